def f_X12_corner_L35 (a0 : Nat) (v3 : Int32) (v4 : Int32) (μ18 : zM) : Nat → Int32 → Int32 → Option (Int32)
  | 0, _, _ => none
  | n + 1, y16, y17 =>
    if (μ18 a0 33) ≤ y17 then
      some y16
    else
      zbd (zbd (if ¬ y16 = 0 then
            some false
          else
            zg (zin y17 5) <|
            if ¬ (μ18 (a0 + 12) (y17.toNatClampNeg)) = v4 then
              some true
            else
              some false) fun b28 =>
        if b28 = true then
          some (0 : Int32)
        else
          some (1 : Int32)) fun x30 =>
      zl (y17 + (1 : Int32)) fun x31 =>
      f_X12_corner_L35 a0 v3 v4 μ18 n x30 x31
def f_X12_corner_L87 (a0 : Nat) (v3 : Int32) (v4 : Int32) : Nat → Int32 → Int32 → zM → Option (Int32 × zM)
  | 0, _, _, _ => none
  | n + 1, y35, y36, μ37 =>
    zbd (f_X12_allWays a0 μ37) fun r38 =>
    if r38 ≤ y36 then
      some (y35, μ37)
    else
      zbd2 (f_X12_fitting a0 y36 μ37) fun r40 μ41 =>
      zbd (f_X12_sights a0 μ41) fun r42 =>
      zbd (zbd (if ¬ r40 = r42 then
            some false
          else
            zg (zin v3 5) <|
            if ¬ (μ41 (a0 + 4) (v3.toNatClampNeg)) = v4 then
              some false
            else
              some true) fun b47 =>
        if b47 = true then
          some (1 : Int32)
        else
          some (0 : Int32)) fun x49 =>
      zl (y35 + x49) fun x50 =>
      zl (y36 + (1 : Int32)) fun x51 =>
      f_X12_corner_L87 a0 v3 v4 n x50 x51 μ41
def f_X12_corner (a0 : Nat) (v1 : Int32) (v2 : Int32) (v3 : Int32) (v4 : Int32) (μ : zM) : Option (Int32 × zM) :=
  zbd2 (f_X12_areSeen a0 v1 v2 μ) fun r1 μ2 =>
  zbd (if r1 = 0 then
      some false
    else
      zbd (f_X12_isMourner a0 v3 μ2) fun r9 =>
      if ¬ r9 = 0 then
        some true
      else
        some false) fun b11 =>
  if b11 = true then
    zl (if ¬ v4 = (-1 : Int32) then
        (0 : Int32)
      else
        (1 : Int32)) fun x14 =>
    zbd (f_X12_corner_L35 a0 v3 v4 μ2 zFU x14 (0 : Int32)) fun x32 =>
    if ¬ x32 = 0 then
      zbd2 (f_X12_corner_L87 a0 v3 v4 zFU (0 : Int32) (0 : Int32) μ2) fun x52 μ53 =>
      some (x52, μ53)
    else
      some ((-1 : Int32), μ2)
  else
    some ((-1 : Int32), μ2)
set_option maxHeartbeats 4000000 in
set_option maxRecDepth 100000 in
theorem r_X12_corner_L35 {l : Launch} {g : zL} {p : Program} {e : Env} {s : State} {m : MethodId} {args : Array Value} {below : List Frame} {meth : Method} {c : Code} {Q : State → Prop} (C0 : zC p s m args meth c g cX12_corner yX12_corner 8 (some (.int))) (a0 : Nat) (v3 : Int32) (v4 : Int32) (μ18 : zM) (hU15 : zT zNN zσ1 a0 12) : ∀ (n : Nat) (y16 : Int32) (y17 : Int32) (x32 : Int32), f_X12_corner_L35 a0 v3 v4 μ18 n y16 y17 = some x32 → Z p l e (zrm 7 0 0) s m args below meth c g Q 8 zNN 0 0 zσ1 μ18 74 [(0, .ref (zb g + a0)), (3, .int v3), (4, .int v4), (5, .int x32)] [] → Z p l e (zrm 7 0 0) s m args below meth c g Q 8 zNN 0 0 zσ1 μ18 35 [(0, .ref (zb g + a0)), (3, .int v3), (4, .int v4), (5, .int y16), (6, .int y17)] [] := by
  intro n
  induction n with
  | zero =>
    intro y16 y17 x32 h kx
    rw [f_X12_corner_L35] at h
    cases h
  | succ n ih =>
    intro y16 y17 x32 h kx
    rw [f_X12_corner_L35] at h
    refine z_iload C0 dX12_corner_35 4 rfl ?_
    refine z_aload_n C0 dX12_corner_37 rfl 0 rfl ?_
    refine z_geti C0 hU15.1 hU15.2.2.1 kf_12_375 zr_12_33 dX12_corner_38 ?_
    refine z_icmp_ge C0 74 dX12_corner_41 (by decide) (fun c19 => ?_) (fun c19 => ?_)
    · have h := zif_t c19 h
      refine z_sub (lo1 := [(0, .ref (zb g + a0)), (3, .int v3), (4, .int v4), (5, .int y16)]) [0, 1, 2, 3] rfl ?_
      obtain rfl := (Option.some.inj h)
      exact kx
    · have h := zif_f c19 h
      refine z_iload C0 dX12_corner_44 3 rfl ?_
      obtain ⟨x30, e_x30, h⟩ := zbd_of h
      refine z_join μ18 66 [(0, .ref (zb g + a0)), (3, .int v3), (4, .int v4), (6, .int y17)] [.int x30] ?_ (fun k_J29 => ?_)
      · refine z_istore (lo1 := [(5, .int x30), (0, .ref (zb g + a0)), (3, .int v3), (4, .int v4), (6, .int y17)]) C0 dX12_corner_66 (by decide) rfl ?_
        obtain ⟨x31, e_x31, h⟩ := zl_of h
        refine z_iinc (lo1 := [(6, .int x31), (5, .int x30), (0, .ref (zb g + a0)), (3, .int v3), (4, .int v4)]) C0 dX12_corner_68 4 rfl (by decide) e_x31.symm (by decide) rfl ?_
        refine z_goto C0 35 dX12_corner_71 (by decide) ?_
        refine z_sub (lo1 := [(0, .ref (zb g + a0)), (3, .int v3), (4, .int v4), (5, .int x30), (6, .int x31)]) [2, 3, 4, 1, 0] rfl ?_
        exact ih _ _ _ h kx
      · have h := e_x30
        obtain ⟨b28, e_b28, h⟩ := zbd_of h
        refine z_joinb b28 μ18 65 61 [(0, .ref (zb g + a0)), (3, .int v3), (4, .int v4), (5, .int y16), (6, .int y17)] [] (fun z56 => ?_) (fun z56 => ?_) (fun k54 k55 => ?_)
        · have h := zif_t z56 h
          refine z_iconst (v := (0 : Int32)) C0 dX12_corner_65 (by decide) ?_
          refine z_sub (lo1 := [(0, .ref (zb g + a0)), (3, .int v3), (4, .int v4), (6, .int y17)]) [0, 1, 2, 4] rfl ?_
          obtain rfl := (Option.some.inj h)
          exact k_J29
        · have h := zif_f (fun q => Bool.noConfusion (z56.symm.trans q)) h
          refine z_iconst (v := (1 : Int32)) C0 dX12_corner_61 (by decide) ?_
          refine z_goto C0 66 dX12_corner_62 (by decide) ?_
          refine z_sub (lo1 := [(0, .ref (zb g + a0)), (3, .int v3), (4, .int v4), (6, .int y17)]) [0, 1, 2, 4] rfl ?_
          obtain rfl := (Option.some.inj h)
          exact k_J29
        · have h := e_b28
          refine z_if_ne C0 61 dX12_corner_46 (by decide) (fun c24 => ?_) (fun c24 => ?_)
          · have h := zif_t c24 h
            exact k55 (Option.some.inj h).symm
          · have h := zif_f (fun q => q c24) h
            refine z_aload_n C0 dX12_corner_49 rfl 0 rfl ?_
            refine z_getr C0 hU15 kf_12_44 zr_12_34 zx_12 (zs_12_34 hU15).1 dX12_corner_50 ?_
            refine z_iload C0 dX12_corner_53 4 rfl ?_
            obtain ⟨g26, h⟩ := zg_of h
            refine z_iald C0 (zs_12_34 hU15).2 g26 rfl dX12_corner_55 ?_
            refine z_iload C0 dX12_corner_56 2 rfl ?_
            refine z_icmp_ne C0 65 dX12_corner_58 (by decide) (fun c27 => ?_) (fun c27 => ?_)
            · have h := zif_t c27 h
              exact k54 (Option.some.inj h).symm
            · have h := zif_f (fun q => q c27) h
              exact k55 (Option.some.inj h).symm
set_option maxHeartbeats 4000000 in
set_option maxRecDepth 100000 in
theorem r_X12_corner_L87 {l : Launch} {g : zL} {p : Program} {e : Env} {s : State} {m : MethodId} {args : Array Value} {below : List Frame} {meth : Method} {c : Code} {Q : State → Prop} (C0 : zC p s m args meth c g cX12_corner yX12_corner 8 (some (.int))) (a0 : Nat) (v3 : Int32) (v4 : Int32) (hU34 : zT zNN zσ1 a0 12) : ∀ (n : Nat) (y35 : Int32) (y36 : Int32) (μ37 : zM) (x52 : Int32) (μ53 : zM), f_X12_corner_L87 a0 v3 v4 n y35 y36 μ37 = some (x52, μ53) → Z p l e (zrm 7 0 0) s m args below meth c g Q 8 zNN 0 0 zσ1 μ53 136 [(6, .int x52)] [] → Z p l e (zrm 7 0 0) s m args below meth c g Q 8 zNN 0 0 zσ1 μ37 87 [(0, .ref (zb g + a0)), (3, .int v3), (4, .int v4), (6, .int y35), (7, .int y36)] [] := by
  intro n
  induction n with
  | zero =>
    intro y35 y36 μ37 x52 μ53 h kx
    rw [f_X12_corner_L87] at h
    cases h
  | succ n ih =>
    intro y35 y36 μ37 x52 μ53 h kx
    rw [f_X12_corner_L87] at h
    refine z_iload C0 dX12_corner_87 4 rfl ?_
    refine z_aload_n C0 dX12_corner_89 rfl 0 rfl ?_
    obtain ⟨r38, e_r38, h⟩ := zbd_of h
    refine z_callV (As := []) (rest := [.int y36]) C0 rfl kc_X12_allWays km_RX12_384 (r_X12_allWays (l := l) (g := g) a0 μ37 hU34 e_r38) hU34.1 hU34.2.2.1 rfl (by decide) rfl (Nat.le_of_ble_eq_true rfl) (Nat.le_of_ble_eq_true rfl) (Nat.le_of_ble_eq_true rfl) (Nat.le_of_ble_eq_true rfl) (Nat.le_refl _) rfl rfl dX12_corner_90 ?_
    refine z_icmp_ge C0 136 dX12_corner_93 (by decide) (fun c39 => ?_) (fun c39 => ?_)
    · have h := zif_t c39 h
      refine z_sub (lo1 := [(6, .int y35)]) [3] rfl ?_
      obtain ⟨rfl, rfl⟩ := Prod.mk.inj (Option.some.inj h)
      exact kx
    · have h := zif_f c39 h
      refine z_iload C0 dX12_corner_96 3 rfl ?_
      refine z_aload_n C0 dX12_corner_98 rfl 0 rfl ?_
      refine z_iload C0 dX12_corner_99 4 rfl ?_
      obtain ⟨r40, μ41, e_r40, h⟩ := zbd2_of h
      refine z_callV (As := [.int y36]) (rest := [.int y35]) C0 rfl kc_X12_fitting km_RX12_387 (r_X12_fitting (l := l) (g := g) a0 y36 μ37 hU34 e_r40) hU34.1 hU34.2.2.1 rfl (by decide) rfl (Nat.le_of_ble_eq_true rfl) (Nat.le_of_ble_eq_true rfl) (Nat.le_of_ble_eq_true rfl) (Nat.le_of_ble_eq_true rfl) (Nat.le_refl _) rfl rfl dX12_corner_101 ?_
      refine z_aload_n C0 dX12_corner_104 rfl 0 rfl ?_
      obtain ⟨r42, e_r42, h⟩ := zbd_of h
      refine z_callV (As := []) (rest := [.int r40, .int y35]) C0 rfl kc_X12_sights km_RX12_369 (r_X12_sights (l := l) (g := g) a0 μ41 hU34 e_r42) hU34.1 hU34.2.2.1 rfl (by decide) rfl (Nat.le_of_ble_eq_true rfl) (Nat.le_of_ble_eq_true rfl) (Nat.le_of_ble_eq_true rfl) (Nat.le_of_ble_eq_true rfl) (Nat.le_refl _) rfl rfl dX12_corner_105 ?_
      obtain ⟨x49, e_x49, h⟩ := zbd_of h
      refine z_join μ41 127 [(0, .ref (zb g + a0)), (3, .int v3), (4, .int v4), (7, .int y36)] [.int x49, .int y35] ?_ (fun k_J48 => ?_)
      · refine z_iadd C0 dX12_corner_127 ?_
        obtain ⟨x50, e_x50, h⟩ := zl_of h
        refine z_nm e_x50 ?_
        refine z_istore (lo1 := [(6, .int x50), (0, .ref (zb g + a0)), (3, .int v3), (4, .int v4), (7, .int y36)]) C0 dX12_corner_128 (by decide) rfl ?_
        obtain ⟨x51, e_x51, h⟩ := zl_of h
        refine z_iinc (lo1 := [(7, .int x51), (6, .int x50), (0, .ref (zb g + a0)), (3, .int v3), (4, .int v4)]) C0 dX12_corner_130 4 rfl (by decide) e_x51.symm (by decide) rfl ?_
        refine z_goto C0 87 dX12_corner_133 (by decide) ?_
        refine z_sub (lo1 := [(0, .ref (zb g + a0)), (3, .int v3), (4, .int v4), (6, .int x50), (7, .int x51)]) [2, 3, 4, 1, 0] rfl ?_
        exact ih _ _ _ _ _ h kx
      · have h := e_x49
        obtain ⟨b47, e_b47, h⟩ := zbd_of h
        refine z_joinb b47 μ41 122 126 [(0, .ref (zb g + a0)), (3, .int v3), (4, .int v4), (6, .int y35), (7, .int y36)] [.int y35] (fun z59 => ?_) (fun z59 => ?_) (fun k57 k58 => ?_)
        · have h := zif_t z59 h
          refine z_iconst (v := (1 : Int32)) C0 dX12_corner_122 (by decide) ?_
          refine z_goto C0 127 dX12_corner_123 (by decide) ?_
          refine z_sub (lo1 := [(0, .ref (zb g + a0)), (3, .int v3), (4, .int v4), (7, .int y36)]) [0, 1, 2, 4] rfl ?_
          obtain rfl := (Option.some.inj h)
          exact k_J48
        · have h := zif_f (fun q => Bool.noConfusion (z59.symm.trans q)) h
          refine z_iconst (v := (0 : Int32)) C0 dX12_corner_126 (by decide) ?_
          refine z_sub (lo1 := [(0, .ref (zb g + a0)), (3, .int v3), (4, .int v4), (7, .int y36)]) [0, 1, 2, 4] rfl ?_
          obtain rfl := (Option.some.inj h)
          exact k_J48
        · have h := e_b47
          refine z_icmp_ne C0 126 dX12_corner_108 (by decide) (fun c43 => ?_) (fun c43 => ?_)
          · have h := zif_t c43 h
            exact k58 (Option.some.inj h).symm
          · have h := zif_f (fun q => q c43) h
            refine z_aload_n C0 dX12_corner_111 rfl 0 rfl ?_
            refine z_getr C0 hU34 kf_12_20 zr_12_23 zx_12 (zs_12_23 hU34).1 dX12_corner_112 ?_
            refine z_iload_n C0 dX12_corner_115 rfl 1 rfl ?_
            obtain ⟨g45, h⟩ := zg_of h
            refine z_iald C0 (zs_12_23 hU34).2 g45 rfl dX12_corner_116 ?_
            refine z_iload C0 dX12_corner_117 2 rfl ?_
            refine z_icmp_ne C0 126 dX12_corner_119 (by decide) (fun c46 => ?_) (fun c46 => ?_)
            · have h := zif_t c46 h
              exact k58 (Option.some.inj h).symm
            · have h := zif_f (fun q => q c46) h
              exact k57 (Option.some.inj h).symm
set_option maxHeartbeats 4000000 in
set_option maxRecDepth 100000 in
theorem r_X12_corner {l : Launch} {g : zL} (a0 : Nat) (v1 : Int32) (v2 : Int32) (v3 : Int32) (v4 : Int32) (μ : zM) (hT0 : zT zNN zσ1 a0 12) {rv : Int32} {μr : zM} (h : f_X12_corner a0 v1 v2 v3 v4 μ = some (rv, μr)) : zMet l g yX12_corner cX12_corner 8 (some (.int)) 7 0 0 zNN zNN zσ1 zσ1 [.ref (zb g + a0), .int v1, .int v2, .int v3, .int v4] μ (some (.int rv)) μr := by
  refine zMet.of (by decide +kernel) (Nat.le_of_ble_eq_true rfl) ?_
  intro p e s m args below meth c C0
  refine z_loc (lo1 := [(0, .ref (zb g + a0)), (1, .int v1), (2, .int v2), (3, .int v3), (4, .int v4)]) rfl ?_
  unfold f_X12_corner at h
  refine z_aload_n C0 dX12_corner_0 rfl 0 rfl ?_
  refine z_iload_n C0 dX12_corner_1 rfl 1 rfl ?_
  refine z_iload_n C0 dX12_corner_2 rfl 2 rfl ?_
  obtain ⟨r1, μ2, e_r1, h⟩ := zbd2_of h
  refine z_callV (As := [.int v1, .int v2]) (rest := []) C0 rfl kc_X12_areSeen km_RX12_381 (r_X12_areSeen (l := l) (g := g) a0 v1 v2 μ hT0 e_r1) hT0.1 hT0.2.2.1 rfl (by decide) rfl (Nat.le_of_ble_eq_true rfl) (Nat.le_of_ble_eq_true rfl) (Nat.le_of_ble_eq_true rfl) (Nat.le_of_ble_eq_true rfl) (Nat.le_refl _) rfl rfl dX12_corner_3 ?_
  obtain ⟨b11, e_b11, h⟩ := zbd_of h
  refine z_joinb b11 μ2 19 17 [(0, .ref (zb g + a0)), (1, .int v1), (2, .int v2), (3, .int v3), (4, .int v4)] [] (fun z62 => ?_) (fun z62 => ?_) (fun k60 k61 => ?_)
  · have h := zif_t z62 h
    refine z_iload C0 dX12_corner_19 4 rfl ?_
    refine z_iconst (v := (-1 : Int32)) C0 dX12_corner_21 (by decide) ?_
    obtain ⟨x14, e_x14, h⟩ := zl_of h
    refine z_join μ2 30 [(0, .ref (zb g + a0)), (3, .int v3), (4, .int v4)] [.int x14] ?_ (fun k_J13 => ?_)
    · refine z_istore (lo1 := [(5, .int x14), (0, .ref (zb g + a0)), (3, .int v3), (4, .int v4)]) C0 dX12_corner_30 (by decide) rfl ?_
      refine z_iconst (v := (0 : Int32)) C0 dX12_corner_32 (by decide) ?_
      refine z_istore (lo1 := [(6, .int (0 : Int32)), (5, .int x14), (0, .ref (zb g + a0)), (3, .int v3), (4, .int v4)]) C0 dX12_corner_33 (by decide) rfl ?_
      refine z_sub (lo1 := [(0, .ref (zb g + a0)), (3, .int v3), (4, .int v4), (5, .int x14), (6, .int (0 : Int32))]) [2, 3, 4, 1, 0] rfl ?_
      obtain ⟨x32, e_x32, h⟩ := zbd_of h
      refine r_X12_corner_L35 C0 a0 v3 v4 μ2 hT0 zFU x14 (0 : Int32) x32 e_x32 ?_
      refine z_iload C0 dX12_corner_74 3 rfl ?_
      refine z_if_ne C0 81 dX12_corner_76 (by decide) (fun c33 => ?_) (fun c33 => ?_)
      · have h := zif_t c33 h
        refine z_iconst (v := (0 : Int32)) C0 dX12_corner_81 (by decide) ?_
        refine z_istore (lo1 := [(6, .int (0 : Int32)), (0, .ref (zb g + a0)), (3, .int v3), (4, .int v4), (5, .int x32)]) C0 dX12_corner_82 (by decide) rfl ?_
        refine z_iconst (v := (0 : Int32)) C0 dX12_corner_84 (by decide) ?_
        refine z_istore (lo1 := [(7, .int (0 : Int32)), (6, .int (0 : Int32)), (0, .ref (zb g + a0)), (3, .int v3), (4, .int v4), (5, .int x32)]) C0 dX12_corner_85 (by decide) rfl ?_
        refine z_sub (lo1 := [(0, .ref (zb g + a0)), (3, .int v3), (4, .int v4), (6, .int (0 : Int32)), (7, .int (0 : Int32))]) [2, 3, 4, 1, 0] rfl ?_
        obtain ⟨x52, μ53, e_x52, h⟩ := zbd2_of h
        refine r_X12_corner_L87 C0 a0 v3 v4 hT0 zFU (0 : Int32) (0 : Int32) μ2 x52 μ53 e_x52 ?_
        refine z_iload C0 dX12_corner_136 0 rfl ?_
        have h := Option.some.inj h
        obtain ⟨rfl, rfl⟩ := Prod.mk.inj h
        exact z_iret C0 rfl dX12_corner_138
      · have h := zif_f (fun q => q c33) h
        refine z_iconst (v := (-1 : Int32)) C0 dX12_corner_79 (by decide) ?_
        have h := Option.some.inj h
        obtain ⟨rfl, rfl⟩ := Prod.mk.inj h
        exact z_iret C0 rfl dX12_corner_80
    · have h := e_x14.symm
      refine z_icmp_ne C0 29 dX12_corner_22 (by decide) (fun c12 => ?_) (fun c12 => ?_)
      · have h := zif_t c12 h
        refine z_iconst (v := (0 : Int32)) C0 dX12_corner_29 (by decide) ?_
        refine z_sub (lo1 := [(0, .ref (zb g + a0)), (3, .int v3), (4, .int v4)]) [0, 3, 4] rfl ?_
        obtain rfl := h
        exact k_J13
      · have h := zif_f (fun q => q c12) h
        refine z_iconst (v := (1 : Int32)) C0 dX12_corner_25 (by decide) ?_
        refine z_goto C0 30 dX12_corner_26 (by decide) ?_
        refine z_sub (lo1 := [(0, .ref (zb g + a0)), (3, .int v3), (4, .int v4)]) [0, 3, 4] rfl ?_
        obtain rfl := h
        exact k_J13
  · have h := zif_f (fun q => Bool.noConfusion (z62.symm.trans q)) h
    refine z_iconst (v := (-1 : Int32)) C0 dX12_corner_17 (by decide) ?_
    have h := Option.some.inj h
    obtain ⟨rfl, rfl⟩ := Prod.mk.inj h
    exact z_iret C0 rfl dX12_corner_18
  · have h := e_b11
    refine z_if_eq C0 17 dX12_corner_6 (by decide) (fun c3 => ?_) (fun c3 => ?_)
    · have h := zif_t c3 h
      exact k61 (Option.some.inj h).symm
    · have h := zif_f c3 h
      refine z_aload_n C0 dX12_corner_9 rfl 0 rfl ?_
      refine z_iload_n C0 dX12_corner_10 rfl 3 rfl ?_
      obtain ⟨r9, e_r9, h⟩ := zbd_of h
      refine z_callV (As := [.int v3]) (rest := []) C0 rfl kc_X12_isMourner km_RX12_285 (r_X12_isMourner (l := l) (g := g) a0 v3 μ2 hT0 e_r9) hT0.1 hT0.2.2.1 rfl (by decide) rfl (Nat.le_of_ble_eq_true rfl) (Nat.le_of_ble_eq_true rfl) (Nat.le_of_ble_eq_true rfl) (Nat.le_of_ble_eq_true rfl) (Nat.le_refl _) rfl rfl dX12_corner_11 ?_
      refine z_if_ne C0 19 dX12_corner_14 (by decide) (fun c10 => ?_) (fun c10 => ?_)
      · have h := zif_t c10 h
        exact k60 (Option.some.inj h).symm
      · have h := zif_f (fun q => q c10) h
        exact k61 (Option.some.inj h).symm
def f_X12_prices_L2 (a0 : Nat) (v1 : Int32) : Nat → Int32 → zM → Option (zM)
  | 0, _, _ => none
  | n + 1, y2, μ3 =>
    if (32761 : Int32) ≤ y2 then
      some μ3
    else
      zg (zin y2 32761) <|
      zl (zup μ3 (a0 + 6) (y2.toNatClampNeg) (1000000 : Int32)) fun μ6 =>
      zl (y2 + (1 : Int32)) fun x7 =>
      f_X12_prices_L2 a0 v1 n x7 μ6
def f_X12_prices_L35 (a0 : Nat) (v1 : Int32) : Nat → Int32 → zM → Option (zM)
  | 0, _, _ => none
  | n + 1, y11, μ12 =>
    zbd (f_X12_mourners a0 μ12) fun r13 =>
    if r13 ≤ y11 then
      some μ12
    else
      zbd (if y11 = v1 then
          some μ12
        else
          zbd (f_X12_boards a0 y11 μ12) fun μ18 =>
          some μ18) fun μ19 =>
      zl (y11 + (1 : Int32)) fun x20 =>
      f_X12_prices_L35 a0 v1 n x20 μ19
def f_X12_prices_L61 (a0 : Nat) : Nat → Int32 → zM → Option (zM)
  | 0, _, _ => none
  | n + 1, y23, μ24 =>
    if (9 : Int32) ≤ y23 then
      some μ24
    else
      zg (zin y23 9) <|
      zl (zup μ24 (a0 + 8) (y23.toNatClampNeg) (1000000 : Int32)) fun μ27 =>
      zl (y23 + (1 : Int32)) fun x28 =>
      f_X12_prices_L61 a0 n x28 μ27
def f_X12_prices_L99 (a0 : Nat) (r30 : Int32) (r31 : Int32) : Nat → Int32 → zM → Option (zM)
  | 0, _, _ => none
  | n + 1, y33, μ34 =>
    if (32761 : Int32) ≤ y33 then
      some μ34
    else
      zg (zin y33 32761) <|
      zbd (if (μ34 (a0 + 6) (y33.toNatClampNeg)) < (1000000 : Int32) then
          zbd (f_X12_lean a0 ((r30 + (y33 / (181 : Int32))) - (90 : Int32)) μ34) fun r43 =>
          zbd (f_X12_lean a0 ((r31 + (y33 % (181 : Int32))) - (90 : Int32)) μ34) fun r44 =>
          zl ((((3 : Int32) * (r43 + (1 : Int32))) + r44) + (1 : Int32)) fun x45 =>
          zg (zin x45 9) <|
          zl (if (μ34 (a0 + 8) (x45.toNatClampNeg)) ≤ (μ34 (a0 + 6) (y33.toNatClampNeg)) then
              (μ34 (a0 + 8) (x45.toNatClampNeg))
            else
              (μ34 (a0 + 6) (y33.toNatClampNeg))) fun x49 =>
          zl (zup μ34 (a0 + 8) (x45.toNatClampNeg) x49) fun μ50 =>
          some μ50
        else
          some μ34) fun μ51 =>
      zl (y33 + (1 : Int32)) fun x52 =>
      f_X12_prices_L99 a0 r30 r31 n x52 μ51
def f_X12_prices (a0 : Nat) (v1 : Int32) (μ : zM) : Option (zM) :=
  zbd (f_X12_prices_L2 a0 v1 zFU (0 : Int32) μ) fun μ8 =>
  zl (zup μ8 (a0 + 6) 16380 (0 : Int32)) fun μ9 =>
  zbd (f_X12_prices_L35 a0 v1 zFU (0 : Int32) μ9) fun μ21 =>
  zbd (f_X12_prices_L61 a0 zFU (0 : Int32) μ21) fun μ29 =>
  zbd (f_X12_gravesList a0 (0 : Int32) (-1 : Int32) μ29) fun r30 =>
  zbd (f_X12_gravesList a0 (1 : Int32) (-1 : Int32) μ29) fun r31 =>
  zbd (f_X12_prices_L99 a0 r30 r31 zFU (0 : Int32) μ29) fun μ53 =>
  some μ53
set_option maxHeartbeats 4000000 in
set_option maxRecDepth 100000 in
theorem r_X12_prices_L2 {l : Launch} {g : zL} {p : Program} {e : Env} {s : State} {m : MethodId} {args : Array Value} {below : List Frame} {meth : Method} {c : Code} {Q : State → Prop} (C0 : zC p s m args meth c g cX12_prices yX12_prices 6 none) (a0 : Nat) (v1 : Int32) (hU1 : zT zNN zσ1 a0 12) : ∀ (n : Nat) (y2 : Int32) (μ3 : zM) (μ8 : zM), f_X12_prices_L2 a0 v1 n y2 μ3 = some μ8 → Z p l e (zrm 3 0 0) s m args below meth c g Q 6 zNN 0 0 zσ1 μ8 24 [(0, .ref (zb g + a0)), (1, .int v1)] [] → Z p l e (zrm 3 0 0) s m args below meth c g Q 6 zNN 0 0 zσ1 μ3 2 [(0, .ref (zb g + a0)), (1, .int v1), (2, .int y2)] [] := by
  intro n
  induction n with
  | zero =>
    intro y2 μ3 μ8 h kx
    rw [f_X12_prices_L2] at h
    cases h
  | succ n ih =>
    intro y2 μ3 μ8 h kx
    rw [f_X12_prices_L2] at h
    refine z_iload_n C0 dX12_prices_2 rfl 2 rfl ?_
    refine z_sipush (v := (32761 : Int32)) C0 dX12_prices_3 (by decide) ?_
    refine z_icmp_ge C0 24 dX12_prices_6 (by decide) (fun c4 => ?_) (fun c4 => ?_)
    · have h := zif_t c4 h
      refine z_sub (lo1 := [(0, .ref (zb g + a0)), (1, .int v1)]) [0, 1] rfl ?_
      obtain rfl := (Option.some.inj h)
      exact kx
    · have h := zif_f c4 h
      refine z_aload_n C0 dX12_prices_9 rfl 0 rfl ?_
      refine z_getr C0 hU1 kf_12_26 zr_12_26 zx_12 (zs_12_26 hU1).1 dX12_prices_10 ?_
      refine z_iload_n C0 dX12_prices_13 rfl 2 rfl ?_
      refine z_ldcw C0 dX12_prices_14 kk_RX12_335 ?_
      obtain ⟨g5, h⟩ := zg_of h
      obtain ⟨μ6, e_μ6, h⟩ := zl_of h
      refine z_iast C0 (zs_12_26 hU1).2 g5 rfl e_μ6 dX12_prices_17 ?_
      obtain ⟨x7, e_x7, h⟩ := zl_of h
      refine z_iinc (lo1 := [(2, .int x7), (0, .ref (zb g + a0)), (1, .int v1)]) C0 dX12_prices_18 2 rfl (by decide) e_x7.symm (by decide) rfl ?_
      refine z_goto C0 2 dX12_prices_21 (by decide) ?_
      refine z_sub (lo1 := [(0, .ref (zb g + a0)), (1, .int v1), (2, .int x7)]) [1, 2, 0] rfl ?_
      exact ih _ _ _ h kx
set_option maxHeartbeats 4000000 in
set_option maxRecDepth 100000 in
theorem r_X12_prices_L35 {l : Launch} {g : zL} {p : Program} {e : Env} {s : State} {m : MethodId} {args : Array Value} {below : List Frame} {meth : Method} {c : Code} {Q : State → Prop} (C0 : zC p s m args meth c g cX12_prices yX12_prices 6 none) (a0 : Nat) (v1 : Int32) (hU10 : zT zNN zσ1 a0 12) : ∀ (n : Nat) (y11 : Int32) (μ12 : zM) (μ21 : zM), f_X12_prices_L35 a0 v1 n y11 μ12 = some μ21 → Z p l e (zrm 3 0 0) s m args below meth c g Q 6 zNN 0 0 zσ1 μ21 59 [(0, .ref (zb g + a0))] [] → Z p l e (zrm 3 0 0) s m args below meth c g Q 6 zNN 0 0 zσ1 μ12 35 [(0, .ref (zb g + a0)), (1, .int v1), (2, .int y11)] [] := by
  intro n
  induction n with
  | zero =>
    intro y11 μ12 μ21 h kx
    rw [f_X12_prices_L35] at h
    cases h
  | succ n ih =>
    intro y11 μ12 μ21 h kx
    rw [f_X12_prices_L35] at h
    refine z_iload_n C0 dX12_prices_35 rfl 2 rfl ?_
    refine z_aload_n C0 dX12_prices_36 rfl 0 rfl ?_
    obtain ⟨r13, e_r13, h⟩ := zbd_of h
    refine z_callV (As := []) (rest := [.int y11]) C0 rfl kc_X12_mourners km_RX12_183 (r_X12_mourners (l := l) (g := g) a0 μ12 hU10 e_r13) hU10.1 hU10.2.2.1 rfl (by decide) rfl (Nat.le_of_ble_eq_true rfl) (Nat.le_of_ble_eq_true rfl) (Nat.le_of_ble_eq_true rfl) (Nat.le_of_ble_eq_true rfl) (Nat.le_refl _) rfl rfl dX12_prices_37 ?_
    refine z_icmp_ge C0 59 dX12_prices_40 (by decide) (fun c14 => ?_) (fun c14 => ?_)
    · have h := zif_t c14 h
      refine z_sub (lo1 := [(0, .ref (zb g + a0))]) [0] rfl ?_
      obtain rfl := (Option.some.inj h)
      exact kx
    · have h := zif_f c14 h
      refine z_iload_n C0 dX12_prices_43 rfl 2 rfl ?_
      refine z_iload_n C0 dX12_prices_44 rfl 1 rfl ?_
      obtain ⟨μ19, e_μ19, h⟩ := zbd_of h
      refine z_join μ19 53 [(0, .ref (zb g + a0)), (1, .int v1), (2, .int y11)] [] ?_ (fun k_J17 => ?_)
      · obtain ⟨x20, e_x20, h⟩ := zl_of h
        refine z_iinc (lo1 := [(2, .int x20), (0, .ref (zb g + a0)), (1, .int v1)]) C0 dX12_prices_53 2 rfl (by decide) e_x20.symm (by decide) rfl ?_
        refine z_goto C0 35 dX12_prices_56 (by decide) ?_
        refine z_sub (lo1 := [(0, .ref (zb g + a0)), (1, .int v1), (2, .int x20)]) [1, 2, 0] rfl ?_
        exact ih _ _ _ h kx
      · have h := e_μ19
        refine z_icmp_eq C0 53 dX12_prices_45 (by decide) (fun c16 => ?_) (fun c16 => ?_)
        · have h := zif_t c16 h
          obtain rfl := (Option.some.inj h)
          exact k_J17
        · have h := zif_f c16 h
          refine z_aload_n C0 dX12_prices_48 rfl 0 rfl ?_
          refine z_iload_n C0 dX12_prices_49 rfl 2 rfl ?_
          obtain ⟨μ18, e_μ18, h⟩ := zbd_of h
          refine z_callV (As := [.int y11]) (rest := []) C0 rfl kc_X12_boards km_RX12_336 (r_X12_boards (l := l) (g := g) a0 y11 μ12 hU10 e_μ18) hU10.1 hU10.2.2.1 rfl (by decide) rfl (Nat.le_of_ble_eq_true rfl) (Nat.le_of_ble_eq_true rfl) (Nat.le_of_ble_eq_true rfl) (Nat.le_of_ble_eq_true rfl) (Nat.le_refl _) rfl rfl dX12_prices_50 ?_
          obtain rfl := (Option.some.inj h)
          exact k_J17
set_option maxHeartbeats 4000000 in
set_option maxRecDepth 100000 in
theorem r_X12_prices_L61 {l : Launch} {g : zL} {p : Program} {e : Env} {s : State} {m : MethodId} {args : Array Value} {below : List Frame} {meth : Method} {c : Code} {Q : State → Prop} (C0 : zC p s m args meth c g cX12_prices yX12_prices 6 none) (a0 : Nat) (hU22 : zT zNN zσ1 a0 12) : ∀ (n : Nat) (y23 : Int32) (μ24 : zM) (μ29 : zM), f_X12_prices_L61 a0 n y23 μ24 = some μ29 → Z p l e (zrm 3 0 0) s m args below meth c g Q 6 zNN 0 0 zσ1 μ29 82 [(0, .ref (zb g + a0))] [] → Z p l e (zrm 3 0 0) s m args below meth c g Q 6 zNN 0 0 zσ1 μ24 61 [(0, .ref (zb g + a0)), (2, .int y23)] [] := by
  intro n
  induction n with
  | zero =>
    intro y23 μ24 μ29 h kx
    rw [f_X12_prices_L61] at h
    cases h
  | succ n ih =>
    intro y23 μ24 μ29 h kx
    rw [f_X12_prices_L61] at h
    refine z_iload_n C0 dX12_prices_61 rfl 1 rfl ?_
    refine z_bipush (v := (9 : Int32)) C0 dX12_prices_62 (by decide) ?_
    refine z_icmp_ge C0 82 dX12_prices_64 (by decide) (fun c25 => ?_) (fun c25 => ?_)
    · have h := zif_t c25 h
      refine z_sub (lo1 := [(0, .ref (zb g + a0))]) [0] rfl ?_
      obtain rfl := (Option.some.inj h)
      exact kx
    · have h := zif_f c25 h
      refine z_aload_n C0 dX12_prices_67 rfl 0 rfl ?_
      refine z_getr C0 hU22 kf_12_32 zr_12_28 zx_12 (zs_12_28 hU22).1 dX12_prices_68 ?_
      refine z_iload_n C0 dX12_prices_71 rfl 1 rfl ?_
      refine z_ldcw C0 dX12_prices_72 kk_RX12_335 ?_
      obtain ⟨g26, h⟩ := zg_of h
      obtain ⟨μ27, e_μ27, h⟩ := zl_of h
      refine z_iast C0 (zs_12_28 hU22).2 g26 rfl e_μ27 dX12_prices_75 ?_
      obtain ⟨x28, e_x28, h⟩ := zl_of h
      refine z_iinc (lo1 := [(2, .int x28), (0, .ref (zb g + a0))]) C0 dX12_prices_76 1 rfl (by decide) e_x28.symm (by decide) rfl ?_
      refine z_goto C0 61 dX12_prices_79 (by decide) ?_
      refine z_sub (lo1 := [(0, .ref (zb g + a0)), (2, .int x28)]) [1, 0] rfl ?_
      exact ih _ _ _ h kx
set_option maxHeartbeats 4000000 in
set_option maxRecDepth 100000 in
theorem r_X12_prices_L99 {l : Launch} {g : zL} {p : Program} {e : Env} {s : State} {m : MethodId} {args : Array Value} {below : List Frame} {meth : Method} {c : Code} {Q : State → Prop} (C0 : zC p s m args meth c g cX12_prices yX12_prices 6 none) (a0 : Nat) (r30 : Int32) (r31 : Int32) (hU32 : zT zNN zσ1 a0 12) : ∀ (n : Nat) (y33 : Int32) (μ34 : zM) (μ53 : zM), f_X12_prices_L99 a0 r30 r31 n y33 μ34 = some μ53 → Z p l e (zrm 3 0 0) s m args below meth c g Q 6 zNN 0 0 zσ1 μ53 209 [] [] → Z p l e (zrm 3 0 0) s m args below meth c g Q 6 zNN 0 0 zσ1 μ34 99 [(0, .ref (zb g + a0)), (2, .int r30), (3, .int r31), (4, .int y33)] [] := by
  intro n
  induction n with
  | zero =>
    intro y33 μ34 μ53 h kx
    rw [f_X12_prices_L99] at h
    cases h
  | succ n ih =>
    intro y33 μ34 μ53 h kx
    rw [f_X12_prices_L99] at h
    refine z_iload C0 dX12_prices_99 3 rfl ?_
    refine z_sipush (v := (32761 : Int32)) C0 dX12_prices_101 (by decide) ?_
    refine z_icmp_ge C0 209 dX12_prices_104 (by decide) (fun c35 => ?_) (fun c35 => ?_)
    · have h := zif_t c35 h
      refine z_sub (lo1 := []) [] rfl ?_
      obtain rfl := (Option.some.inj h)
      exact kx
    · have h := zif_f c35 h
      refine z_aload_n C0 dX12_prices_107 rfl 0 rfl ?_
      refine z_getr C0 hU32 kf_12_26 zr_12_26 zx_12 (zs_12_26 hU32).1 dX12_prices_108 ?_
      refine z_iload C0 dX12_prices_111 3 rfl ?_
      obtain ⟨g40, h⟩ := zg_of h
      refine z_iald C0 (zs_12_26 hU32).2 g40 rfl dX12_prices_113 ?_
      refine z_ldcw C0 dX12_prices_114 kk_RX12_335 ?_
      obtain ⟨μ51, e_μ51, h⟩ := zbd_of h
      refine z_join μ51 203 [(0, .ref (zb g + a0)), (2, .int r30), (3, .int r31), (4, .int y33)] [] ?_ (fun k_J42 => ?_)
      · obtain ⟨x52, e_x52, h⟩ := zl_of h
        refine z_iinc (lo1 := [(4, .int x52), (0, .ref (zb g + a0)), (2, .int r30), (3, .int r31)]) C0 dX12_prices_203 3 rfl (by decide) e_x52.symm (by decide) rfl ?_
        refine z_goto C0 99 dX12_prices_206 (by decide) ?_
        refine z_sub (lo1 := [(0, .ref (zb g + a0)), (2, .int r30), (3, .int r31), (4, .int x52)]) [1, 2, 3, 0] rfl ?_
        exact ih _ _ _ h kx
      · have h := e_μ51
        refine z_icmp_lt C0 123 dX12_prices_117 (by decide) (fun c41 => ?_) (fun c41 => ?_)
        · have h := zif_t c41 h
          refine z_iconst (v := (3 : Int32)) C0 dX12_prices_123 (by decide) ?_
          refine z_aload_n C0 dX12_prices_124 rfl 0 rfl ?_
          refine z_iload_n C0 dX12_prices_125 rfl 1 rfl ?_
          refine z_iload C0 dX12_prices_126 3 rfl ?_
          refine z_sipush (v := (181 : Int32)) C0 dX12_prices_128 (by decide) ?_
          refine z_idiv C0 dX12_prices_131 (by decide) ?_
          refine z_iadd C0 dX12_prices_132 ?_
          refine z_bipush (v := (90 : Int32)) C0 dX12_prices_133 (by decide) ?_
          refine z_isub C0 dX12_prices_135 ?_
          obtain ⟨r43, e_r43, h⟩ := zbd_of h
          refine z_callV (As := [.int ((r30 + (y33 / (181 : Int32))) - (90 : Int32))]) (rest := [.int (3 : Int32)]) C0 rfl kc_X12_lean km_RX12_263 (r_X12_lean (l := l) (g := g) a0 ((r30 + (y33 / (181 : Int32))) - (90 : Int32)) μ34 hU32 e_r43) hU32.1 hU32.2.2.1 rfl (by decide) rfl (Nat.le_of_ble_eq_true rfl) (Nat.le_of_ble_eq_true rfl) (Nat.le_of_ble_eq_true rfl) (Nat.le_of_ble_eq_true rfl) (Nat.le_refl _) rfl rfl dX12_prices_136 ?_
          refine z_iconst (v := (1 : Int32)) C0 dX12_prices_139 (by decide) ?_
          refine z_iadd C0 dX12_prices_140 ?_
          refine z_imul C0 dX12_prices_141 ?_
          refine z_aload_n C0 dX12_prices_142 rfl 0 rfl ?_
          refine z_iload_n C0 dX12_prices_143 rfl 2 rfl ?_
          refine z_iload C0 dX12_prices_144 3 rfl ?_
          refine z_sipush (v := (181 : Int32)) C0 dX12_prices_146 (by decide) ?_
          refine z_irem C0 dX12_prices_149 (by decide) ?_
          refine z_iadd C0 dX12_prices_150 ?_
          refine z_bipush (v := (90 : Int32)) C0 dX12_prices_151 (by decide) ?_
          refine z_isub C0 dX12_prices_153 ?_
          obtain ⟨r44, e_r44, h⟩ := zbd_of h
          refine z_callV (As := [.int ((r31 + (y33 % (181 : Int32))) - (90 : Int32))]) (rest := [.int ((3 : Int32) * (r43 + (1 : Int32)))]) C0 rfl kc_X12_lean km_RX12_263 (r_X12_lean (l := l) (g := g) a0 ((r31 + (y33 % (181 : Int32))) - (90 : Int32)) μ34 hU32 e_r44) hU32.1 hU32.2.2.1 rfl (by decide) rfl (Nat.le_of_ble_eq_true rfl) (Nat.le_of_ble_eq_true rfl) (Nat.le_of_ble_eq_true rfl) (Nat.le_of_ble_eq_true rfl) (Nat.le_refl _) rfl rfl dX12_prices_154 ?_
          refine z_iadd C0 dX12_prices_157 ?_
          refine z_iconst (v := (1 : Int32)) C0 dX12_prices_158 (by decide) ?_
          refine z_iadd C0 dX12_prices_159 ?_
          obtain ⟨x45, e_x45, h⟩ := zl_of h
          refine z_nm e_x45 ?_
          refine z_istore (lo1 := [(5, .int x45), (0, .ref (zb g + a0)), (2, .int r30), (3, .int r31), (4, .int y33)]) C0 dX12_prices_160 (by decide) rfl ?_
          refine z_aload_n C0 dX12_prices_162 rfl 1 rfl ?_
          refine z_getr C0 hU32 kf_12_32 zr_12_28 zx_12 (zs_12_28 hU32).1 dX12_prices_163 ?_
          refine z_iload C0 dX12_prices_166 0 rfl ?_
          refine z_aload_n C0 dX12_prices_168 rfl 1 rfl ?_
          refine z_getr C0 hU32 kf_12_26 zr_12_26 zx_12 (zs_12_26 hU32).1 dX12_prices_169 ?_
          refine z_iload C0 dX12_prices_172 4 rfl ?_
          refine z_iald C0 (zs_12_26 hU32).2 g40 rfl dX12_prices_174 ?_
          refine z_aload_n C0 dX12_prices_175 rfl 1 rfl ?_
          refine z_getr C0 hU32 kf_12_32 zr_12_28 zx_12 (zs_12_28 hU32).1 dX12_prices_176 ?_
          refine z_iload C0 dX12_prices_179 0 rfl ?_
          obtain ⟨g46, h⟩ := zg_of h
          refine z_iald C0 (zs_12_28 hU32).2 g46 rfl dX12_prices_181 ?_
          obtain ⟨x49, e_x49, h⟩ := zl_of h
          refine z_join μ34 202 [(0, .ref (zb g + a0)), (2, .int r30), (3, .int r31), (4, .int y33)] [.int x49, .int x45, .ref (zb g + (a0 + 8))] ?_ (fun k_J48 => ?_)
          · obtain ⟨μ50, e_μ50, h⟩ := zl_of h
            refine z_iast C0 (zs_12_28 hU32).2 g46 rfl e_μ50 dX12_prices_202 ?_
            obtain rfl := (Option.some.inj h)
            exact k_J42
          · have h := e_x49.symm
            refine z_icmp_ge C0 195 dX12_prices_182 (by decide) (fun c47 => ?_) (fun c47 => ?_)
            · have h := zif_t c47 h
              refine z_aload_n C0 dX12_prices_195 rfl 1 rfl ?_
              refine z_getr C0 hU32 kf_12_32 zr_12_28 zx_12 (zs_12_28 hU32).1 dX12_prices_196 ?_
              refine z_iload C0 dX12_prices_199 0 rfl ?_
              refine z_iald C0 (zs_12_28 hU32).2 g46 rfl dX12_prices_201 ?_
              refine z_sub (lo1 := [(0, .ref (zb g + a0)), (2, .int r30), (3, .int r31), (4, .int y33)]) [1, 2, 3, 4] rfl ?_
              obtain rfl := h
              exact k_J48
            · have h := zif_f c47 h
              refine z_aload_n C0 dX12_prices_185 rfl 1 rfl ?_
              refine z_getr C0 hU32 kf_12_26 zr_12_26 zx_12 (zs_12_26 hU32).1 dX12_prices_186 ?_
              refine z_iload C0 dX12_prices_189 4 rfl ?_
              refine z_iald C0 (zs_12_26 hU32).2 g40 rfl dX12_prices_191 ?_
              refine z_goto C0 202 dX12_prices_192 (by decide) ?_
              refine z_sub (lo1 := [(0, .ref (zb g + a0)), (2, .int r30), (3, .int r31), (4, .int y33)]) [1, 2, 3, 4] rfl ?_
              obtain rfl := h
              exact k_J48
        · have h := zif_f c41 h
          refine z_goto C0 203 dX12_prices_120 (by decide) ?_
          obtain rfl := (Option.some.inj h)
          exact k_J42
set_option maxHeartbeats 4000000 in
set_option maxRecDepth 100000 in
theorem r_X12_prices {l : Launch} {g : zL} (a0 : Nat) (v1 : Int32) (μ : zM) (hT0 : zT zNN zσ1 a0 12) {μr : zM} (h : f_X12_prices a0 v1 μ = some μr) : zMet l g yX12_prices cX12_prices 6 none 3 0 0 zNN zNN zσ1 zσ1 [.ref (zb g + a0), .int v1] μ none μr := by
  refine zMet.of (by decide +kernel) (Nat.le_of_ble_eq_true rfl) ?_
  intro p e s m args below meth c C0
  refine z_loc (lo1 := [(0, .ref (zb g + a0)), (1, .int v1)]) rfl ?_
  unfold f_X12_prices at h
  refine z_iconst (v := (0 : Int32)) C0 dX12_prices_0 (by decide) ?_
  refine z_istore_n (lo1 := [(2, .int (0 : Int32)), (0, .ref (zb g + a0)), (1, .int v1)]) C0 dX12_prices_1 rfl (by decide) rfl ?_
  refine z_sub (lo1 := [(0, .ref (zb g + a0)), (1, .int v1), (2, .int (0 : Int32))]) [1, 2, 0] rfl ?_
  obtain ⟨μ8, e_μ8, h⟩ := zbd_of h
  refine r_X12_prices_L2 C0 a0 v1 hT0 zFU (0 : Int32) μ μ8 e_μ8 ?_
  refine z_aload_n C0 dX12_prices_24 rfl 0 rfl ?_
  refine z_getr C0 hT0 kf_12_26 zr_12_26 zx_12 (zs_12_26 hT0).1 dX12_prices_25 ?_
  refine z_sipush (v := (16380 : Int32)) C0 dX12_prices_28 (by decide) ?_
  refine z_iconst (v := (0 : Int32)) C0 dX12_prices_31 (by decide) ?_
  obtain ⟨μ9, e_μ9, h⟩ := zl_of h
  refine z_iast (j := 16380) C0 (zs_12_26 hT0).2 (by decide : zin (16380 : Int32) 32761 = true) (by decide) e_μ9 dX12_prices_32 ?_
  refine z_iconst (v := (0 : Int32)) C0 dX12_prices_33 (by decide) ?_
  refine z_istore_n (lo1 := [(2, .int (0 : Int32)), (0, .ref (zb g + a0)), (1, .int v1)]) C0 dX12_prices_34 rfl (by decide) rfl ?_
  refine z_sub (lo1 := [(0, .ref (zb g + a0)), (1, .int v1), (2, .int (0 : Int32))]) [1, 2, 0] rfl ?_
  obtain ⟨μ21, e_μ21, h⟩ := zbd_of h
  refine r_X12_prices_L35 C0 a0 v1 hT0 zFU (0 : Int32) μ9 μ21 e_μ21 ?_
  refine z_iconst (v := (0 : Int32)) C0 dX12_prices_59 (by decide) ?_
  refine z_istore_n (lo1 := [(2, .int (0 : Int32)), (0, .ref (zb g + a0))]) C0 dX12_prices_60 rfl (by decide) rfl ?_
  refine z_sub (lo1 := [(0, .ref (zb g + a0)), (2, .int (0 : Int32))]) [1, 0] rfl ?_
  obtain ⟨μ29, e_μ29, h⟩ := zbd_of h
  refine r_X12_prices_L61 C0 a0 hT0 zFU (0 : Int32) μ21 μ29 e_μ29 ?_
  refine z_aload_n C0 dX12_prices_82 rfl 0 rfl ?_
  refine z_iconst (v := (0 : Int32)) C0 dX12_prices_83 (by decide) ?_
  refine z_iconst (v := (-1 : Int32)) C0 dX12_prices_84 (by decide) ?_
  obtain ⟨r30, e_r30, h⟩ := zbd_of h
  refine z_callV (As := [.int (0 : Int32), .int (-1 : Int32)]) (rest := []) C0 rfl kc_X12_gravesList km_RX12_254 (r_X12_gravesList (l := l) (g := g) a0 (0 : Int32) (-1 : Int32) μ29 hT0 e_r30) hT0.1 hT0.2.2.1 rfl (by decide) rfl (Nat.le_of_ble_eq_true rfl) (Nat.le_of_ble_eq_true rfl) (Nat.le_of_ble_eq_true rfl) (Nat.le_of_ble_eq_true rfl) (Nat.le_refl _) rfl rfl dX12_prices_85 ?_
  refine z_istore_n (lo1 := [(2, .int r30), (0, .ref (zb g + a0))]) C0 dX12_prices_88 rfl (by decide) rfl ?_
  refine z_aload_n C0 dX12_prices_89 rfl 1 rfl ?_
  refine z_iconst (v := (1 : Int32)) C0 dX12_prices_90 (by decide) ?_
  refine z_iconst (v := (-1 : Int32)) C0 dX12_prices_91 (by decide) ?_
  obtain ⟨r31, e_r31, h⟩ := zbd_of h
  refine z_callV (As := [.int (1 : Int32), .int (-1 : Int32)]) (rest := []) C0 rfl kc_X12_gravesList km_RX12_254 (r_X12_gravesList (l := l) (g := g) a0 (1 : Int32) (-1 : Int32) μ29 hT0 e_r31) hT0.1 hT0.2.2.1 rfl (by decide) rfl (Nat.le_of_ble_eq_true rfl) (Nat.le_of_ble_eq_true rfl) (Nat.le_of_ble_eq_true rfl) (Nat.le_of_ble_eq_true rfl) (Nat.le_refl _) rfl rfl dX12_prices_92 ?_
  refine z_istore_n (lo1 := [(3, .int r31), (2, .int r30), (0, .ref (zb g + a0))]) C0 dX12_prices_95 rfl (by decide) rfl ?_
  refine z_iconst (v := (0 : Int32)) C0 dX12_prices_96 (by decide) ?_
  refine z_istore (lo1 := [(4, .int (0 : Int32)), (3, .int r31), (2, .int r30), (0, .ref (zb g + a0))]) C0 dX12_prices_97 (by decide) rfl ?_
  refine z_sub (lo1 := [(0, .ref (zb g + a0)), (2, .int r30), (3, .int r31), (4, .int (0 : Int32))]) [3, 2, 1, 0] rfl ?_
  obtain ⟨μ53, e_μ53, h⟩ := zbd_of h
  refine r_X12_prices_L99 C0 a0 r30 r31 hT0 zFU (0 : Int32) μ29 μ53 e_μ53 ?_
  have h := Option.some.inj h
  obtain rfl := h
  exact z_vret C0 rfl dX12_prices_209
def f_X12_cost (a0 : Nat) (v1 : Int32) (v2 : Int32) (v3 : Int32) (μ : zM) : Option (Int32 × zM) :=
  zbd2 (f_X12_isLake a0 v1 μ) fun r1 μ2 =>
  if (¬ (r1 = 0)) ∧ ((¬ ((f_X12_isIn v2 (-1 : Int32) (1 : Int32)) = 0)) ∧ (¬ (f_X12_isIn v3 (-1 : Int32) (1 : Int32)) = 0)) then
    zbd (f_X12_prices a0 (-1 : Int32) μ2) fun μ6 =>
    zg (zin ((((3 : Int32) * (v2 + (1 : Int32))) + v3) + (1 : Int32)) 9) <|
    zl (μ6 (a0 + 8) (((((3 : Int32) * (v2 + (1 : Int32))) + v3) + (1 : Int32)).toNatClampNeg)) fun x8 =>
    zl (if (1000000 : Int32) ≤ x8 then
        (-1 : Int32)
      else
        x8) fun x11 =>
    some (x11, μ6)
  else
    some ((-1 : Int32), μ2)
set_option maxHeartbeats 4000000 in
set_option maxRecDepth 100000 in
theorem r_X12_cost {l : Launch} {g : zL} (a0 : Nat) (v1 : Int32) (v2 : Int32) (v3 : Int32) (μ : zM) (hT0 : zT zNN zσ1 a0 12) {rv : Int32} {μr : zM} (h : f_X12_cost a0 v1 v2 v3 μ = some (rv, μr)) : zMet l g yX12_cost cX12_cost 5 (some (.int)) 4 0 0 zNN zNN zσ1 zσ1 [.ref (zb g + a0), .int v1, .int v2, .int v3] μ (some (.int rv)) μr := by
  refine zMet.of (by decide +kernel) (Nat.le_of_ble_eq_true rfl) ?_
  intro p e s m args below meth c C0
  refine z_loc (lo1 := [(0, .ref (zb g + a0)), (1, .int v1), (2, .int v2), (3, .int v3)]) rfl ?_
  unfold f_X12_cost at h
  refine z_aload_n C0 dX12_cost_0 rfl 0 rfl ?_
  refine z_iload_n C0 dX12_cost_1 rfl 1 rfl ?_
  obtain ⟨r1, μ2, e_r1, h⟩ := zbd2_of h
  refine z_callV (As := [.int v1]) (rest := []) C0 rfl kc_X12_isLake km_RX12_186 (r_X12_isLake (l := l) (g := g) a0 v1 μ hT0 e_r1) hT0.1 hT0.2.2.1 rfl (by decide) rfl (Nat.le_of_ble_eq_true rfl) (Nat.le_of_ble_eq_true rfl) (Nat.le_of_ble_eq_true rfl) (Nat.le_of_ble_eq_true rfl) (Nat.le_refl _) rfl rfl dX12_cost_2 ?_
  by_cases hc12 : (¬ (r1 = 0)) ∧ ((¬ ((f_X12_isIn v2 (-1 : Int32) (1 : Int32)) = 0)) ∧ (¬ (f_X12_isIn v3 (-1 : Int32) (1 : Int32)) = 0))
  · have h := zif_t hc12 h
    refine z_join μ2 28 [(0, .ref (zb g + a0)), (1, .int v1), (2, .int v2), (3, .int v3)] [] ?_ (fun k13 => ?_)
    · refine z_aload_n C0 dX12_cost_28 rfl 0 rfl ?_
      refine z_iconst (v := (-1 : Int32)) C0 dX12_cost_29 (by decide) ?_
      obtain ⟨μ6, e_μ6, h⟩ := zbd_of h
      refine z_callV (As := [.int (-1 : Int32)]) (rest := []) C0 rfl kc_X12_prices km_RX12_339 (r_X12_prices (l := l) (g := g) a0 (-1 : Int32) μ2 hT0 e_μ6) hT0.1 hT0.2.2.1 rfl (by decide) rfl (Nat.le_of_ble_eq_true rfl) (Nat.le_of_ble_eq_true rfl) (Nat.le_of_ble_eq_true rfl) (Nat.le_of_ble_eq_true rfl) (Nat.le_refl _) rfl rfl dX12_cost_30 ?_
      refine z_aload_n C0 dX12_cost_33 rfl 0 rfl ?_
      refine z_getr C0 hT0 kf_12_32 zr_12_28 zx_12 (zs_12_28 hT0).1 dX12_cost_34 ?_
      refine z_iconst (v := (3 : Int32)) C0 dX12_cost_37 (by decide) ?_
      refine z_iload_n C0 dX12_cost_38 rfl 2 rfl ?_
      refine z_iconst (v := (1 : Int32)) C0 dX12_cost_39 (by decide) ?_
      refine z_iadd C0 dX12_cost_40 ?_
      refine z_imul C0 dX12_cost_41 ?_
      refine z_iload_n C0 dX12_cost_42 rfl 3 rfl ?_
      refine z_iadd C0 dX12_cost_43 ?_
      refine z_iconst (v := (1 : Int32)) C0 dX12_cost_44 (by decide) ?_
      refine z_iadd C0 dX12_cost_45 ?_
      obtain ⟨g7, h⟩ := zg_of h
      refine z_iald C0 (zs_12_28 hT0).2 g7 rfl dX12_cost_46 ?_
      obtain ⟨x8, e_x8, h⟩ := zl_of h
      refine z_nm e_x8 ?_
      refine z_istore (lo1 := [(4, .int x8), (0, .ref (zb g + a0)), (1, .int v1), (2, .int v2), (3, .int v3)]) C0 dX12_cost_47 (by decide) rfl ?_
      refine z_iload C0 dX12_cost_49 0 rfl ?_
      refine z_ldcw C0 dX12_cost_51 kk_RX12_335 ?_
      obtain ⟨x11, e_x11, h⟩ := zl_of h
      refine z_join μ6 63 [] [.int x11] ?_ (fun k_J10 => ?_)
      · have h := Option.some.inj h
        obtain ⟨rfl, rfl⟩ := Prod.mk.inj h
        exact z_iret C0 rfl dX12_cost_63
      · have h := e_x11.symm
        refine z_icmp_ge C0 62 dX12_cost_54 (by decide) (fun c9 => ?_) (fun c9 => ?_)
        · have h := zif_t c9 h
          refine z_iconst (v := (-1 : Int32)) C0 dX12_cost_62 (by decide) ?_
          refine z_sub (lo1 := []) [] rfl ?_
          obtain rfl := h
          exact k_J10
        · have h := zif_f c9 h
          refine z_iload C0 dX12_cost_57 0 rfl ?_
          refine z_goto C0 63 dX12_cost_59 (by decide) ?_
          refine z_sub (lo1 := []) [] rfl ?_
          obtain rfl := h
          exact k_J10
    · refine z_if_eq C0 26 dX12_cost_5 (by decide) (fun c3 => ?_) (fun c3 => ?_)
      · exact absurd hc12 (fun q => q.1 c3)
      · refine z_iload_n C0 dX12_cost_8 rfl 2 rfl ?_
        refine z_iconst (v := (-1 : Int32)) C0 dX12_cost_9 (by decide) ?_
        refine z_iconst (v := (1 : Int32)) C0 dX12_cost_10 (by decide) ?_
        refine z_callS (As := [.int v2, .int (-1 : Int32), .int (1 : Int32)]) (rest := []) C0 rfl kc_X12_isIn km_RX12_109 (r_X12_isIn (l := l) (g := g) (μ := μ2) v2 (-1 : Int32) (1 : Int32) rfl) rfl (Nat.le_of_ble_eq_true rfl) (Nat.le_of_ble_eq_true rfl) (Nat.le_of_ble_eq_true rfl) (Nat.le_of_ble_eq_true rfl) (Nat.le_refl _) rfl rfl dX12_cost_11 ?_
        refine z_if_eq C0 26 dX12_cost_14 (by decide) (fun c4 => ?_) (fun c4 => ?_)
        · exact absurd hc12 (fun q => (fun q => q.1 c4) q.2)
        · refine z_iload_n C0 dX12_cost_17 rfl 3 rfl ?_
          refine z_iconst (v := (-1 : Int32)) C0 dX12_cost_18 (by decide) ?_
          refine z_iconst (v := (1 : Int32)) C0 dX12_cost_19 (by decide) ?_
          refine z_callS (As := [.int v3, .int (-1 : Int32), .int (1 : Int32)]) (rest := []) C0 rfl kc_X12_isIn km_RX12_109 (r_X12_isIn (l := l) (g := g) (μ := μ2) v3 (-1 : Int32) (1 : Int32) rfl) rfl (Nat.le_of_ble_eq_true rfl) (Nat.le_of_ble_eq_true rfl) (Nat.le_of_ble_eq_true rfl) (Nat.le_of_ble_eq_true rfl) (Nat.le_refl _) rfl rfl dX12_cost_20 ?_
          refine z_if_ne C0 28 dX12_cost_23 (by decide) (fun c5 => ?_) (fun c5 => ?_)
          · exact k13
          · exact absurd hc12 (fun q => (fun q => (fun q => q c5) q.2) q.2)
  · have h := zif_f hc12 h
    refine z_join μ2 26 [(0, .ref (zb g + a0)), (1, .int v1), (2, .int v2), (3, .int v3)] [] ?_ (fun k14 => ?_)
    · refine z_iconst (v := (-1 : Int32)) C0 dX12_cost_26 (by decide) ?_
      have h := Option.some.inj h
      obtain ⟨rfl, rfl⟩ := Prod.mk.inj h
      exact z_iret C0 rfl dX12_cost_27
    · refine z_if_eq C0 26 dX12_cost_5 (by decide) (fun c3 => ?_) (fun c3 => ?_)
      · exact k14
      · refine z_iload_n C0 dX12_cost_8 rfl 2 rfl ?_
        refine z_iconst (v := (-1 : Int32)) C0 dX12_cost_9 (by decide) ?_
        refine z_iconst (v := (1 : Int32)) C0 dX12_cost_10 (by decide) ?_
        refine z_callS (As := [.int v2, .int (-1 : Int32), .int (1 : Int32)]) (rest := []) C0 rfl kc_X12_isIn km_RX12_109 (r_X12_isIn (l := l) (g := g) (μ := μ2) v2 (-1 : Int32) (1 : Int32) rfl) rfl (Nat.le_of_ble_eq_true rfl) (Nat.le_of_ble_eq_true rfl) (Nat.le_of_ble_eq_true rfl) (Nat.le_of_ble_eq_true rfl) (Nat.le_refl _) rfl rfl dX12_cost_11 ?_
        refine z_if_eq C0 26 dX12_cost_14 (by decide) (fun c4 => ?_) (fun c4 => ?_)
        · exact k14
        · refine z_iload_n C0 dX12_cost_17 rfl 3 rfl ?_
          refine z_iconst (v := (-1 : Int32)) C0 dX12_cost_18 (by decide) ?_
          refine z_iconst (v := (1 : Int32)) C0 dX12_cost_19 (by decide) ?_
          refine z_callS (As := [.int v3, .int (-1 : Int32), .int (1 : Int32)]) (rest := []) C0 rfl kc_X12_isIn km_RX12_109 (r_X12_isIn (l := l) (g := g) (μ := μ2) v3 (-1 : Int32) (1 : Int32) rfl) rfl (Nat.le_of_ble_eq_true rfl) (Nat.le_of_ble_eq_true rfl) (Nat.le_of_ble_eq_true rfl) (Nat.le_of_ble_eq_true rfl) (Nat.le_refl _) rfl rfl dX12_cost_20 ?_
          refine z_if_ne C0 28 dX12_cost_23 (by decide) (fun c5 => ?_) (fun c5 => ?_)
          · exact absurd ⟨c3, ⟨c4, c5⟩⟩ hc12
          · exact k14
def f_X12_count (a0 : Nat) (v1 : Int32) (μ : zM) : Option (Int32) :=
  zbd (if (f_X12_isIn v1 (0 : Int32) (4 : Int32)) = 0 then
      some (-2 : Int32)
    else
      zg (zin v1 4688) <|
      some (μ (a0 + 1) (v1.toNatClampNeg))) fun x4 =>
  some x4
set_option maxHeartbeats 4000000 in
set_option maxRecDepth 100000 in
theorem r_X12_count {l : Launch} {g : zL} (a0 : Nat) (v1 : Int32) (μ : zM) (hT0 : zT zNN zσ1 a0 12) {rv : Int32} (h : f_X12_count a0 v1 μ = some rv) : zMet l g yX12_count cX12_count 2 (some (.int)) 1 0 0 zNN zNN zσ1 zσ1 [.ref (zb g + a0), .int v1] μ (some (.int rv)) μ := by
  refine zMet.of (by decide +kernel) (Nat.le_of_ble_eq_true rfl) ?_
  intro p e s m args below meth c C0
  refine z_loc (lo1 := [(0, .ref (zb g + a0)), (1, .int v1)]) rfl ?_
  unfold f_X12_count at h
  refine z_iload_n C0 dX12_count_0 rfl 1 rfl ?_
  refine z_iconst (v := (0 : Int32)) C0 dX12_count_1 (by decide) ?_
  refine z_iconst (v := (4 : Int32)) C0 dX12_count_2 (by decide) ?_
  refine z_callS (As := [.int v1, .int (0 : Int32), .int (4 : Int32)]) (rest := []) C0 rfl kc_X12_isIn km_RX12_109 (r_X12_isIn (l := l) (g := g) (μ := μ) v1 (0 : Int32) (4 : Int32) rfl) rfl (Nat.le_of_ble_eq_true rfl) (Nat.le_of_ble_eq_true rfl) (Nat.le_of_ble_eq_true rfl) (Nat.le_of_ble_eq_true rfl) (Nat.le_refl _) rfl rfl dX12_count_3 ?_
  obtain ⟨x4, e_x4, h⟩ := zbd_of h
  refine z_join μ 20 [] [.int x4] ?_ (fun k_J2 => ?_)
  · have h := Option.some.inj h
    obtain rfl := h
    exact z_iret C0 rfl dX12_count_20
  · have h := e_x4
    refine z_if_eq C0 18 dX12_count_6 (by decide) (fun c1 => ?_) (fun c1 => ?_)
    · have h := zif_t c1 h
      refine z_bipush (v := (-2 : Int32)) C0 dX12_count_18 (by decide) ?_
      refine z_sub (lo1 := []) [] rfl ?_
      obtain rfl := (Option.some.inj h)
      exact k_J2
    · have h := zif_f c1 h
      refine z_aload_n C0 dX12_count_9 rfl 0 rfl ?_
      refine z_getr C0 hT0 kf_12_7 zr_12_0 zx_12 (zs_12_0 hT0).1 dX12_count_10 ?_
      refine z_iload_n C0 dX12_count_13 rfl 1 rfl ?_
      obtain ⟨g3, h⟩ := zg_of h
      refine z_iald C0 (zs_12_0 hT0).2 g3 rfl dX12_count_14 ?_
      refine z_goto C0 20 dX12_count_15 (by decide) ?_
      refine z_sub (lo1 := []) [] rfl ?_
      obtain rfl := (Option.some.inj h)
      exact k_J2
def f_X12_lowest_L2 (v1 : Int32) : Nat → Int32 → Option (Int32)
  | 0, _ => none
  | n + 1, y1 =>
    if ¬ ((v1 >>> (y1 &&& 31)) &&& (1 : Int32)) = 0 then
      some y1
    else
      zl (y1 + (1 : Int32)) fun x4 =>
      f_X12_lowest_L2 v1 n x4
def f_X12_lowest (a0 : Nat) (v1 : Int32) : Option (Int32) :=
  zbd (f_X12_lowest_L2 v1 zFU (0 : Int32)) fun x5 =>
  some x5
set_option maxHeartbeats 4000000 in
set_option maxRecDepth 100000 in
theorem r_X12_lowest_L2 {l : Launch} {g : zL} {p : Program} {e : Env} {s : State} {m : MethodId} {args : Array Value} {below : List Frame} {meth : Method} {c : Code} {Q : State → Prop} (C0 : zC p s m args meth c g cX12_lowest yX12_lowest 3 (some (.int))) (v1 : Int32) (μ2 : zM)  : ∀ (n : Nat) (y1 : Int32) (x5 : Int32), f_X12_lowest_L2 v1 n y1 = some x5 → Z p l e (zrm 0 0 0) s m args below meth c g Q 3 zNN 0 0 zσ1 μ2 16 [(2, .int x5)] [] → Z p l e (zrm 0 0 0) s m args below meth c g Q 3 zNN 0 0 zσ1 μ2 2 [(1, .int v1), (2, .int y1)] [] := by
  intro n
  induction n with
  | zero =>
    intro y1 x5 h kx
    rw [f_X12_lowest_L2] at h
    cases h
  | succ n ih =>
    intro y1 x5 h kx
    rw [f_X12_lowest_L2] at h
    refine z_iload_n C0 dX12_lowest_2 rfl 0 rfl ?_
    refine z_iload_n C0 dX12_lowest_3 rfl 1 rfl ?_
    refine z_ishr C0 dX12_lowest_4 ?_
    refine z_iconst (v := (1 : Int32)) C0 dX12_lowest_5 (by decide) ?_
    refine z_iand C0 dX12_lowest_6 ?_
    refine z_if_ne C0 16 dX12_lowest_7 (by decide) (fun c3 => ?_) (fun c3 => ?_)
    · have h := zif_t c3 h
      refine z_sub (lo1 := [(2, .int y1)]) [1] rfl ?_
      obtain rfl := (Option.some.inj h)
      exact kx
    · have h := zif_f (fun q => q c3) h
      obtain ⟨x4, e_x4, h⟩ := zl_of h
      refine z_iinc (lo1 := [(2, .int x4), (1, .int v1)]) C0 dX12_lowest_10 1 rfl (by decide) e_x4.symm (by decide) rfl ?_
      refine z_goto C0 2 dX12_lowest_13 (by decide) ?_
      refine z_sub (lo1 := [(1, .int v1), (2, .int x4)]) [1, 0] rfl ?_
      exact ih _ _ h kx
set_option maxHeartbeats 4000000 in
set_option maxRecDepth 100000 in
theorem r_X12_lowest {l : Launch} {g : zL} (a0 : Nat) (v1 : Int32) {μ : zM} (hT0 : zT zNN zσ1 a0 12) {rv : Int32} (h : f_X12_lowest a0 v1 = some rv) : zMet l g yX12_lowest cX12_lowest 3 (some (.int)) 0 0 0 zNN zNN zσ1 zσ1 [.ref (zb g + a0), .int v1] μ (some (.int rv)) μ := by
  refine zMet.of (by decide +kernel) (Nat.le_of_ble_eq_true rfl) ?_
  intro p e s m args below meth c C0
  refine z_loc (lo1 := [(0, .ref (zb g + a0)), (1, .int v1)]) rfl ?_
  unfold f_X12_lowest at h
  refine z_iconst (v := (0 : Int32)) C0 dX12_lowest_0 (by decide) ?_
  refine z_istore_n (lo1 := [(2, .int (0 : Int32)), (0, .ref (zb g + a0)), (1, .int v1)]) C0 dX12_lowest_1 rfl (by decide) rfl ?_
  refine z_sub (lo1 := [(1, .int v1), (2, .int (0 : Int32))]) [2, 0] rfl ?_
  obtain ⟨x5, e_x5, h⟩ := zbd_of h
  refine r_X12_lowest_L2 C0 v1 μ zFU (0 : Int32) x5 e_x5 ?_
  refine z_iload_n C0 dX12_lowest_16 rfl 0 rfl ?_
  have h := Option.some.inj h
  obtain rfl := h
  exact z_iret C0 rfl dX12_lowest_17
def f_X12_counts_L57 (a0 : Nat) (x2 : Int32) (y4 : Int32) (y8 : Int32) (x18 : Int32) (μ22 : zM) : Nat → Int32 → Int32 → Option (Int32)
  | 0, _, _ => none
  | n + 1, y20, y21 =>
    if (¬ ((8 : Int32) ≤ y21)) ∧ (¬ (y4 = 0)) then
      zg (zin (((μ22 a0 35) + (1 : Int32)) + x18) 4688) <|
      zbd (if ¬ (((y8 &&& (μ22 (a0 + 1) ((((μ22 a0 35) + (1 : Int32)) + x18).toNatClampNeg))) >>> (y21 &&& 31)) &&& (1 : Int32)) = (1 : Int32) then
          some (0 : Int32)
        else
          zg (zin (((256 : Int32) * (y4 &&& (((1 : Int32) <<< (x18 &&& 31)) ^^^ (-1 : Int32)))) + (y8 &&& (((1 : Int32) <<< (y21 &&& 31)) ^^^ (-1 : Int32)))) 65536) <|
          some (μ22 (a0 + 13) ((((256 : Int32) * (y4 &&& (((1 : Int32) <<< (x18 &&& 31)) ^^^ (-1 : Int32)))) + (y8 &&& (((1 : Int32) <<< (y21 &&& 31)) ^^^ (-1 : Int32)))).toNatClampNeg))) fun x29 =>
      zl (y20 + x29) fun x30 =>
      zl (y21 + (1 : Int32)) fun x31 =>
      f_X12_counts_L57 a0 x2 y4 y8 x18 μ22 n x30 x31
    else
      some y20
def f_X12_counts_L21 (a0 : Nat) (x2 : Int32) (y4 : Int32) : Nat → Int32 → zM → Option (zM)
  | 0, _, _ => none
  | n + 1, y8, μ9 =>
    if (256 : Int32) ≤ y8 then
      some μ9
    else
      zl (if ¬ y4 = 0 then
          (0 : Int32)
        else
          (1 : Int32)) fun x14 =>
      zbd (if ¬ y4 = 0 then
          zbd (f_X12_lowest a0 y4) fun r17 =>
          some r17
        else
          some (0 : Int32)) fun x18 =>
      zbd (f_X12_counts_L57 a0 x2 y4 y8 x18 μ9 zFU x14 (0 : Int32)) fun x32 =>
      zg (zin (((256 : Int32) * y4) + y8) 65536) <|
      zl (zup μ9 (a0 + 13) ((((256 : Int32) * y4) + y8).toNatClampNeg) x32) fun μ34 =>
      zl (y8 + (1 : Int32)) fun x35 =>
      f_X12_counts_L21 a0 x2 y4 n x35 μ34
def f_X12_counts_L12 (a0 : Nat) (x2 : Int32) : Nat → Int32 → zM → Option (zM)
  | 0, _, _ => none
  | n + 1, y4, μ5 =>
    if ((1 : Int32) <<< (x2 &&& 31)) ≤ y4 then
      some μ5
    else
      zbd (f_X12_counts_L21 a0 x2 y4 zFU (0 : Int32) μ5) fun μ36 =>
      zl (y4 + (1 : Int32)) fun x37 =>
      f_X12_counts_L12 a0 x2 n x37 μ36
def f_X12_counts (a0 : Nat) (μ : zM) : Option (zM) :=
  zg (zin (μ a0 35) 4688) <|
  zl (μ (a0 + 1) ((μ a0 35).toNatClampNeg)) fun x2 =>
  zbd (f_X12_counts_L12 a0 x2 zFU (0 : Int32) μ) fun μ38 =>
  some μ38
set_option maxHeartbeats 4000000 in
set_option maxRecDepth 100000 in
theorem r_X12_counts_L57 {l : Launch} {g : zL} {p : Program} {e : Env} {s : State} {m : MethodId} {args : Array Value} {below : List Frame} {meth : Method} {c : Code} {Q : State → Prop} (C0 : zC p s m args meth c g cX12_counts yX12_counts 7 none) (a0 : Nat) (x2 : Int32) (y4 : Int32) (y8 : Int32) (x18 : Int32) (μ22 : zM) (hU19 : zT zNN zσ1 a0 12) : ∀ (n : Nat) (y20 : Int32) (y21 : Int32) (x32 : Int32), f_X12_counts_L57 a0 x2 y4 y8 x18 μ22 n y20 y21 = some x32 → Z p l e (zrm 1 0 0) s m args below meth c g Q 7 zNN 0 0 zσ1 μ22 134 [(0, .ref (zb g + a0)), (1, .int x2), (2, .int y4), (3, .int y8), (4, .int x32)] [] → Z p l e (zrm 1 0 0) s m args below meth c g Q 7 zNN 0 0 zσ1 μ22 57 [(0, .ref (zb g + a0)), (1, .int x2), (2, .int y4), (3, .int y8), (4, .int y20), (5, .int x18), (6, .int y21)] [] := by
  intro n
  induction n with
  | zero =>
    intro y20 y21 x32 h kx
    rw [f_X12_counts_L57] at h
    cases h
  | succ n ih =>
    intro y20 y21 x32 h kx
    rw [f_X12_counts_L57] at h
    refine z_iload C0 dX12_counts_57 6 rfl ?_
    refine z_bipush (v := (8 : Int32)) C0 dX12_counts_59 (by decide) ?_
    by_cases hc39 : (¬ ((8 : Int32) ≤ y21)) ∧ (¬ (y4 = 0))
    · have h := zif_t hc39 h
      refine z_join μ22 68 [(0, .ref (zb g + a0)), (1, .int x2), (2, .int y4), (3, .int y8), (4, .int y20), (5, .int x18), (6, .int y21)] [] ?_ (fun k40 => ?_)
      · refine z_iload C0 dX12_counts_68 4 rfl ?_
        refine z_iload_n C0 dX12_counts_70 rfl 3 rfl ?_
        refine z_aload_n C0 dX12_counts_71 rfl 0 rfl ?_
        refine z_getr C0 hU19 kf_12_7 zr_12_0 zx_12 (zs_12_0 hU19).1 dX12_counts_72 ?_
        refine z_aload_n C0 dX12_counts_75 rfl 0 rfl ?_
        refine z_geti C0 hU19.1 hU19.2.2.1 kf_12_396 zr_12_35 dX12_counts_76 ?_
        refine z_iconst (v := (1 : Int32)) C0 dX12_counts_79 (by decide) ?_
        refine z_iadd C0 dX12_counts_80 ?_
        refine z_iload C0 dX12_counts_81 5 rfl ?_
        refine z_iadd C0 dX12_counts_83 ?_
        obtain ⟨g25, h⟩ := zg_of h
        refine z_iald C0 (zs_12_0 hU19).2 g25 rfl dX12_counts_84 ?_
        refine z_iand C0 dX12_counts_85 ?_
        refine z_iload C0 dX12_counts_86 6 rfl ?_
        refine z_ishr C0 dX12_counts_88 ?_
        refine z_iconst (v := (1 : Int32)) C0 dX12_counts_89 (by decide) ?_
        refine z_iand C0 dX12_counts_90 ?_
        refine z_iconst (v := (1 : Int32)) C0 dX12_counts_91 (by decide) ?_
        obtain ⟨x29, e_x29, h⟩ := zbd_of h
        refine z_join μ22 125 [(0, .ref (zb g + a0)), (1, .int x2), (2, .int y4), (3, .int y8), (5, .int x18), (6, .int y21)] [.int x29, .int y20] ?_ (fun k_J27 => ?_)
        · refine z_iadd C0 dX12_counts_125 ?_
          obtain ⟨x30, e_x30, h⟩ := zl_of h
          refine z_nm e_x30 ?_
          refine z_istore (lo1 := [(4, .int x30), (0, .ref (zb g + a0)), (1, .int x2), (2, .int y4), (3, .int y8), (5, .int x18), (6, .int y21)]) C0 dX12_counts_126 (by decide) rfl ?_
          obtain ⟨x31, e_x31, h⟩ := zl_of h
          refine z_iinc (lo1 := [(6, .int x31), (4, .int x30), (0, .ref (zb g + a0)), (1, .int x2), (2, .int y4), (3, .int y8), (5, .int x18)]) C0 dX12_counts_128 6 rfl (by decide) e_x31.symm (by decide) rfl ?_
          refine z_goto C0 57 dX12_counts_131 (by decide) ?_
          refine z_sub (lo1 := [(0, .ref (zb g + a0)), (1, .int x2), (2, .int y4), (3, .int y8), (4, .int x30), (5, .int x18), (6, .int x31)]) [2, 3, 4, 5, 1, 6, 0] rfl ?_
          exact ih _ _ _ h kx
        · have h := e_x29
          refine z_icmp_ne C0 124 dX12_counts_92 (by decide) (fun c26 => ?_) (fun c26 => ?_)
          · have h := zif_t c26 h
            refine z_iconst (v := (0 : Int32)) C0 dX12_counts_124 (by decide) ?_
            refine z_sub (lo1 := [(0, .ref (zb g + a0)), (1, .int x2), (2, .int y4), (3, .int y8), (5, .int x18), (6, .int y21)]) [0, 1, 2, 3, 5, 6] rfl ?_
            obtain rfl := (Option.some.inj h)
            exact k_J27
          · have h := zif_f (fun q => q c26) h
            refine z_aload_n C0 dX12_counts_95 rfl 0 rfl ?_
            refine z_getr C0 hU19 kf_12_48 zr_12_36 zx_12 (zs_12_36 hU19).1 dX12_counts_96 ?_
            refine z_sipush (v := (256 : Int32)) C0 dX12_counts_99 (by decide) ?_
            refine z_iload_n C0 dX12_counts_102 rfl 2 rfl ?_
            refine z_iconst (v := (1 : Int32)) C0 dX12_counts_103 (by decide) ?_
            refine z_iload C0 dX12_counts_104 5 rfl ?_
            refine z_ishl C0 dX12_counts_106 ?_
            refine z_iconst (v := (-1 : Int32)) C0 dX12_counts_107 (by decide) ?_
            refine z_ixor C0 dX12_counts_108 ?_
            refine z_iand C0 dX12_counts_109 ?_
            refine z_imul C0 dX12_counts_110 ?_
            refine z_iload_n C0 dX12_counts_111 rfl 3 rfl ?_
            refine z_iconst (v := (1 : Int32)) C0 dX12_counts_112 (by decide) ?_
            refine z_iload C0 dX12_counts_113 6 rfl ?_
            refine z_ishl C0 dX12_counts_115 ?_
            refine z_iconst (v := (-1 : Int32)) C0 dX12_counts_116 (by decide) ?_
            refine z_ixor C0 dX12_counts_117 ?_
            refine z_iand C0 dX12_counts_118 ?_
            refine z_iadd C0 dX12_counts_119 ?_
            obtain ⟨g28, h⟩ := zg_of h
            refine z_iald C0 (zs_12_36 hU19).2 g28 rfl dX12_counts_120 ?_
            refine z_goto C0 125 dX12_counts_121 (by decide) ?_
            refine z_sub (lo1 := [(0, .ref (zb g + a0)), (1, .int x2), (2, .int y4), (3, .int y8), (5, .int x18), (6, .int y21)]) [0, 1, 2, 3, 5, 6] rfl ?_
            obtain rfl := (Option.some.inj h)
            exact k_J27
      · refine z_icmp_ge C0 134 dX12_counts_61 (by decide) (fun c23 => ?_) (fun c23 => ?_)
        · exact absurd hc39 (fun q => q.1 c23)
        · refine z_iload_n C0 dX12_counts_64 rfl 2 rfl ?_
          refine z_if_eq C0 134 dX12_counts_65 (by decide) (fun c24 => ?_) (fun c24 => ?_)
          · exact absurd hc39 (fun q => (fun q => q c24) q.2)
          · exact k40
    · have h := zif_f hc39 h
      refine z_join μ22 134 [(0, .ref (zb g + a0)), (1, .int x2), (2, .int y4), (3, .int y8), (4, .int y20), (5, .int x18), (6, .int y21)] [] ?_ (fun k41 => ?_)
      · refine z_sub (lo1 := [(0, .ref (zb g + a0)), (1, .int x2), (2, .int y4), (3, .int y8), (4, .int y20)]) [0, 1, 2, 3, 4] rfl ?_
        obtain rfl := (Option.some.inj h)
        exact kx
      · refine z_icmp_ge C0 134 dX12_counts_61 (by decide) (fun c23 => ?_) (fun c23 => ?_)
        · exact k41
        · refine z_iload_n C0 dX12_counts_64 rfl 2 rfl ?_
          refine z_if_eq C0 134 dX12_counts_65 (by decide) (fun c24 => ?_) (fun c24 => ?_)
          · exact k41
          · exact absurd ⟨c23, c24⟩ hc39
set_option maxHeartbeats 4000000 in
set_option maxRecDepth 100000 in
theorem r_X12_counts_L21 {l : Launch} {g : zL} {p : Program} {e : Env} {s : State} {m : MethodId} {args : Array Value} {below : List Frame} {meth : Method} {c : Code} {Q : State → Prop} (C0 : zC p s m args meth c g cX12_counts yX12_counts 7 none) (a0 : Nat) (x2 : Int32) (y4 : Int32) (hU7 : zT zNN zσ1 a0 12) : ∀ (n : Nat) (y8 : Int32) (μ9 : zM) (μ36 : zM), f_X12_counts_L21 a0 x2 y4 n y8 μ9 = some μ36 → Z p l e (zrm 1 0 0) s m args below meth c g Q 7 zNN 0 0 zσ1 μ36 154 [(0, .ref (zb g + a0)), (1, .int x2), (2, .int y4)] [] → Z p l e (zrm 1 0 0) s m args below meth c g Q 7 zNN 0 0 zσ1 μ9 21 [(0, .ref (zb g + a0)), (1, .int x2), (2, .int y4), (3, .int y8)] [] := by
  intro n
  induction n with
  | zero =>
    intro y8 μ9 μ36 h kx
    rw [f_X12_counts_L21] at h
    cases h
  | succ n ih =>
    intro y8 μ9 μ36 h kx
    rw [f_X12_counts_L21] at h
    refine z_iload_n C0 dX12_counts_21 rfl 3 rfl ?_
    refine z_sipush (v := (256 : Int32)) C0 dX12_counts_22 (by decide) ?_
    refine z_icmp_ge C0 154 dX12_counts_25 (by decide) (fun c10 => ?_) (fun c10 => ?_)
    · have h := zif_t c10 h
      refine z_sub (lo1 := [(0, .ref (zb g + a0)), (1, .int x2), (2, .int y4)]) [0, 1, 2] rfl ?_
      obtain rfl := (Option.some.inj h)
      exact kx
    · have h := zif_f c10 h
      refine z_iload_n C0 dX12_counts_28 rfl 2 rfl ?_
      obtain ⟨x14, e_x14, h⟩ := zl_of h
      refine z_join μ9 37 [(0, .ref (zb g + a0)), (1, .int x2), (2, .int y4), (3, .int y8)] [.int x14] ?_ (fun k_J13 => ?_)
      · refine z_istore (lo1 := [(4, .int x14), (0, .ref (zb g + a0)), (1, .int x2), (2, .int y4), (3, .int y8)]) C0 dX12_counts_37 (by decide) rfl ?_
        refine z_iload_n C0 dX12_counts_39 rfl 3 rfl ?_
        obtain ⟨x18, e_x18, h⟩ := zbd_of h
        refine z_join μ9 52 [(0, .ref (zb g + a0)), (1, .int x2), (2, .int y4), (3, .int y8), (4, .int x14)] [.int x18] ?_ (fun k_J16 => ?_)
        · refine z_istore (lo1 := [(5, .int x18), (0, .ref (zb g + a0)), (1, .int x2), (2, .int y4), (3, .int y8), (4, .int x14)]) C0 dX12_counts_52 (by decide) rfl ?_
          refine z_iconst (v := (0 : Int32)) C0 dX12_counts_54 (by decide) ?_
          refine z_istore (lo1 := [(6, .int (0 : Int32)), (5, .int x18), (0, .ref (zb g + a0)), (1, .int x2), (2, .int y4), (3, .int y8), (4, .int x14)]) C0 dX12_counts_55 (by decide) rfl ?_
          refine z_sub (lo1 := [(0, .ref (zb g + a0)), (1, .int x2), (2, .int y4), (3, .int y8), (4, .int x14), (5, .int x18), (6, .int (0 : Int32))]) [2, 3, 4, 5, 6, 1, 0] rfl ?_
          obtain ⟨x32, e_x32, h⟩ := zbd_of h
          refine r_X12_counts_L57 C0 a0 x2 y4 y8 x18 μ9 hU7 zFU x14 (0 : Int32) x32 e_x32 ?_
          refine z_aload_n C0 dX12_counts_134 rfl 0 rfl ?_
          refine z_getr C0 hU7 kf_12_48 zr_12_36 zx_12 (zs_12_36 hU7).1 dX12_counts_135 ?_
          refine z_sipush (v := (256 : Int32)) C0 dX12_counts_138 (by decide) ?_
          refine z_iload_n C0 dX12_counts_141 rfl 2 rfl ?_
          refine z_imul C0 dX12_counts_142 ?_
          refine z_iload_n C0 dX12_counts_143 rfl 3 rfl ?_
          refine z_iadd C0 dX12_counts_144 ?_
          refine z_iload C0 dX12_counts_145 4 rfl ?_
          obtain ⟨g33, h⟩ := zg_of h
          obtain ⟨μ34, e_μ34, h⟩ := zl_of h
          refine z_iast C0 (zs_12_36 hU7).2 g33 rfl e_μ34 dX12_counts_147 ?_
          obtain ⟨x35, e_x35, h⟩ := zl_of h
          refine z_iinc (lo1 := [(3, .int x35), (0, .ref (zb g + a0)), (1, .int x2), (2, .int y4), (4, .int x32)]) C0 dX12_counts_148 3 rfl (by decide) e_x35.symm (by decide) rfl ?_
          refine z_goto C0 21 dX12_counts_151 (by decide) ?_
          refine z_sub (lo1 := [(0, .ref (zb g + a0)), (1, .int x2), (2, .int y4), (3, .int x35)]) [1, 2, 3, 0] rfl ?_
          exact ih _ _ _ h kx
        · have h := e_x18
          refine z_if_ne C0 47 dX12_counts_40 (by decide) (fun c15 => ?_) (fun c15 => ?_)
          · have h := zif_t c15 h
            refine z_aload_n C0 dX12_counts_47 rfl 1 rfl ?_
            refine z_iload_n C0 dX12_counts_48 rfl 3 rfl ?_
            obtain ⟨r17, e_r17, h⟩ := zbd_of h
            refine z_callV (As := [.int y4]) (rest := []) C0 rfl kc_X12_lowest km_RX12_399 (r_X12_lowest (l := l) (g := g) (μ := μ9) a0 y4 hU7 e_r17) hU7.1 hU7.2.2.1 rfl (by decide) rfl (Nat.le_of_ble_eq_true rfl) (Nat.le_of_ble_eq_true rfl) (Nat.le_of_ble_eq_true rfl) (Nat.le_of_ble_eq_true rfl) (Nat.le_refl _) rfl rfl dX12_counts_49 ?_
            refine z_sub (lo1 := [(0, .ref (zb g + a0)), (1, .int x2), (2, .int y4), (3, .int y8), (4, .int x14)]) [1, 2, 3, 4, 0] rfl ?_
            obtain rfl := (Option.some.inj h)
            exact k_J16
          · have h := zif_f (fun q => q c15) h
            refine z_iconst (v := (0 : Int32)) C0 dX12_counts_43 (by decide) ?_
            refine z_goto C0 52 dX12_counts_44 (by decide) ?_
            refine z_sub (lo1 := [(0, .ref (zb g + a0)), (1, .int x2), (2, .int y4), (3, .int y8), (4, .int x14)]) [1, 2, 3, 4, 0] rfl ?_
            obtain rfl := (Option.some.inj h)
            exact k_J16
      · have h := e_x14.symm
        refine z_if_ne C0 36 dX12_counts_29 (by decide) (fun c12 => ?_) (fun c12 => ?_)
        · have h := zif_t c12 h
          refine z_iconst (v := (0 : Int32)) C0 dX12_counts_36 (by decide) ?_
          obtain rfl := h
          exact k_J13
        · have h := zif_f (fun q => q c12) h
          refine z_iconst (v := (1 : Int32)) C0 dX12_counts_32 (by decide) ?_
          refine z_goto C0 37 dX12_counts_33 (by decide) ?_
          obtain rfl := h
          exact k_J13
set_option maxHeartbeats 4000000 in
set_option maxRecDepth 100000 in
theorem r_X12_counts_L12 {l : Launch} {g : zL} {p : Program} {e : Env} {s : State} {m : MethodId} {args : Array Value} {below : List Frame} {meth : Method} {c : Code} {Q : State → Prop} (C0 : zC p s m args meth c g cX12_counts yX12_counts 7 none) (a0 : Nat) (x2 : Int32) (hU3 : zT zNN zσ1 a0 12) : ∀ (n : Nat) (y4 : Int32) (μ5 : zM) (μ38 : zM), f_X12_counts_L12 a0 x2 n y4 μ5 = some μ38 → Z p l e (zrm 1 0 0) s m args below meth c g Q 7 zNN 0 0 zσ1 μ38 160 [] [] → Z p l e (zrm 1 0 0) s m args below meth c g Q 7 zNN 0 0 zσ1 μ5 12 [(0, .ref (zb g + a0)), (1, .int x2), (2, .int y4)] [] := by
  intro n
  induction n with
  | zero =>
    intro y4 μ5 μ38 h kx
    rw [f_X12_counts_L12] at h
    cases h
  | succ n ih =>
    intro y4 μ5 μ38 h kx
    rw [f_X12_counts_L12] at h
    refine z_iload_n C0 dX12_counts_12 rfl 2 rfl ?_
    refine z_iconst (v := (1 : Int32)) C0 dX12_counts_13 (by decide) ?_
    refine z_iload_n C0 dX12_counts_14 rfl 1 rfl ?_
    refine z_ishl C0 dX12_counts_15 ?_
    refine z_icmp_ge C0 160 dX12_counts_16 (by decide) (fun c6 => ?_) (fun c6 => ?_)
    · have h := zif_t c6 h
      refine z_sub (lo1 := []) [] rfl ?_
      obtain rfl := (Option.some.inj h)
      exact kx
    · have h := zif_f c6 h
      refine z_iconst (v := (0 : Int32)) C0 dX12_counts_19 (by decide) ?_
      refine z_istore_n (lo1 := [(3, .int (0 : Int32)), (0, .ref (zb g + a0)), (1, .int x2), (2, .int y4)]) C0 dX12_counts_20 rfl (by decide) rfl ?_
      refine z_sub (lo1 := [(0, .ref (zb g + a0)), (1, .int x2), (2, .int y4), (3, .int (0 : Int32))]) [1, 2, 3, 0] rfl ?_
      obtain ⟨μ36, e_μ36, h⟩ := zbd_of h
      refine r_X12_counts_L21 C0 a0 x2 y4 hU3 zFU (0 : Int32) μ5 μ36 e_μ36 ?_
      obtain ⟨x37, e_x37, h⟩ := zl_of h
      refine z_iinc (lo1 := [(2, .int x37), (0, .ref (zb g + a0)), (1, .int x2)]) C0 dX12_counts_154 2 rfl (by decide) e_x37.symm (by decide) rfl ?_
      refine z_goto C0 12 dX12_counts_157 (by decide) ?_
      refine z_sub (lo1 := [(0, .ref (zb g + a0)), (1, .int x2), (2, .int x37)]) [1, 2, 0] rfl ?_
      exact ih _ _ _ h kx
set_option maxHeartbeats 4000000 in
set_option maxRecDepth 100000 in
theorem r_X12_counts {l : Launch} {g : zL} (a0 : Nat) (μ : zM) (hT0 : zT zNN zσ1 a0 12) {μr : zM} (h : f_X12_counts a0 μ = some μr) : zMet l g yX12_counts cX12_counts 7 none 1 0 0 zNN zNN zσ1 zσ1 [.ref (zb g + a0)] μ none μr := by
  refine zMet.of (by decide +kernel) (Nat.le_of_ble_eq_true rfl) ?_
  intro p e s m args below meth c C0
  refine z_loc (lo1 := [(0, .ref (zb g + a0))]) rfl ?_
  unfold f_X12_counts at h
  refine z_aload_n C0 dX12_counts_0 rfl 0 rfl ?_
  refine z_getr C0 hT0 kf_12_7 zr_12_0 zx_12 (zs_12_0 hT0).1 dX12_counts_1 ?_
  refine z_aload_n C0 dX12_counts_4 rfl 0 rfl ?_
  refine z_geti C0 hT0.1 hT0.2.2.1 kf_12_396 zr_12_35 dX12_counts_5 ?_
  obtain ⟨g1, h⟩ := zg_of h
  refine z_iald C0 (zs_12_0 hT0).2 g1 rfl dX12_counts_8 ?_
  obtain ⟨x2, e_x2, h⟩ := zl_of h
  refine z_nm e_x2 ?_
  refine z_istore_n (lo1 := [(1, .int x2), (0, .ref (zb g + a0))]) C0 dX12_counts_9 rfl (by decide) rfl ?_
  refine z_iconst (v := (0 : Int32)) C0 dX12_counts_10 (by decide) ?_
  refine z_istore_n (lo1 := [(2, .int (0 : Int32)), (1, .int x2), (0, .ref (zb g + a0))]) C0 dX12_counts_11 rfl (by decide) rfl ?_
  refine z_sub (lo1 := [(0, .ref (zb g + a0)), (1, .int x2), (2, .int (0 : Int32))]) [2, 1, 0] rfl ?_
  obtain ⟨μ38, e_μ38, h⟩ := zbd_of h
  refine r_X12_counts_L12 C0 a0 x2 hT0 zFU (0 : Int32) μ μ38 e_μ38 ?_
  have h := Option.some.inj h
  obtain rfl := h
  exact z_vret C0 rfl dX12_counts_160
def f_X12_takes (a0 : Nat) (v1 : Int32) (v2 : Int32) (μ : zM) : Option (Int32 × zM) :=
  if ((μ a0 8) = 0) ∧ (((μ a0 5) = (3 : Int32)) ∧ (¬ (f_X12_isIn (μ a0 7) v1 v2) = 0)) then
    zl (μ a0 7) fun x4 =>
    zbd (f_X12_advance a0 μ) fun μ5 =>
    some (x4, μ5)
  else
    zl (f_X12_ends a0 μ) fun μ6 =>
    some ((0 : Int32), μ6)
set_option maxHeartbeats 4000000 in
set_option maxRecDepth 100000 in
theorem r_X12_takes {l : Launch} {g : zL} (a0 : Nat) (v1 : Int32) (v2 : Int32) (μ : zM) (hT0 : zT zNN zσ1 a0 12) {rv : Int32} {μr : zM} (h : f_X12_takes a0 v1 v2 μ = some (rv, μr)) : zMet l g yX12_takes cX12_takes 4 (some (.int)) 5 0 0 zNN zNN zσ1 zσ1 [.ref (zb g + a0), .int v1, .int v2] μ (some (.int rv)) μr := by
  refine zMet.of (by decide +kernel) (Nat.le_of_ble_eq_true rfl) ?_
  intro p e s m args below meth c C0
  refine z_loc (lo1 := [(0, .ref (zb g + a0)), (1, .int v1), (2, .int v2)]) rfl ?_
  unfold f_X12_takes at h
  refine z_aload_n C0 dX12_takes_0 rfl 0 rfl ?_
  refine z_geti C0 hT0.1 hT0.2.2.1 kf_12_102 zr_12_8 dX12_takes_1 ?_
  by_cases hc7 : ((μ a0 8) = 0) ∧ (((μ a0 5) = (3 : Int32)) ∧ (¬ (f_X12_isIn (μ a0 7) v1 v2) = 0))
  · have h := zif_t hc7 h
    refine z_join μ 33 [(0, .ref (zb g + a0)), (1, .int v1), (2, .int v2)] [] ?_ (fun k8 => ?_)
    · refine z_aload_n C0 dX12_takes_33 rfl 0 rfl ?_
      refine z_geti C0 hT0.1 hT0.2.2.1 kf_12_93 zr_12_7 dX12_takes_34 ?_
      obtain ⟨x4, e_x4, h⟩ := zl_of h
      refine z_nm e_x4 ?_
      refine z_istore_n (lo1 := [(3, .int x4), (0, .ref (zb g + a0)), (1, .int v1), (2, .int v2)]) C0 dX12_takes_37 rfl (by decide) rfl ?_
      refine z_aload_n C0 dX12_takes_38 rfl 1 rfl ?_
      obtain ⟨μ5, e_μ5, h⟩ := zbd_of h
      refine z_callV (As := []) (rest := []) C0 rfl kc_X12_advance km_RX12_117 (r_X12_advance (l := l) (g := g) a0 μ hT0 e_μ5) hT0.1 hT0.2.2.1 rfl (by decide) rfl (Nat.le_of_ble_eq_true rfl) (Nat.le_of_ble_eq_true rfl) (Nat.le_of_ble_eq_true rfl) (Nat.le_of_ble_eq_true rfl) (Nat.le_refl _) rfl rfl dX12_takes_39 ?_
      refine z_iload_n C0 dX12_takes_42 rfl 0 rfl ?_
      have h := Option.some.inj h
      obtain ⟨rfl, rfl⟩ := Prod.mk.inj h
      exact z_iret C0 rfl dX12_takes_43
    · refine z_if_ne C0 27 dX12_takes_4 (by decide) (fun c1 => ?_) (fun c1 => ?_)
      · exact absurd hc7 (fun q => c1 q.1)
      · refine z_aload_n C0 dX12_takes_7 rfl 0 rfl ?_
        refine z_geti C0 hT0.1 hT0.2.2.1 kf_12_79 zr_12_5 dX12_takes_8 ?_
        refine z_iconst (v := (3 : Int32)) C0 dX12_takes_11 (by decide) ?_
        refine z_icmp_ne C0 27 dX12_takes_12 (by decide) (fun c2 => ?_) (fun c2 => ?_)
        · exact absurd hc7 (fun q => (fun q => c2 q.1) q.2)
        · refine z_aload_n C0 dX12_takes_15 rfl 0 rfl ?_
          refine z_geti C0 hT0.1 hT0.2.2.1 kf_12_93 zr_12_7 dX12_takes_16 ?_
          refine z_iload_n C0 dX12_takes_19 rfl 1 rfl ?_
          refine z_iload_n C0 dX12_takes_20 rfl 2 rfl ?_
          refine z_callS (As := [.int (μ a0 7), .int v1, .int v2]) (rest := []) C0 rfl kc_X12_isIn km_RX12_109 (r_X12_isIn (l := l) (g := g) (μ := μ) (μ a0 7) v1 v2 rfl) rfl (Nat.le_of_ble_eq_true rfl) (Nat.le_of_ble_eq_true rfl) (Nat.le_of_ble_eq_true rfl) (Nat.le_of_ble_eq_true rfl) (Nat.le_refl _) rfl rfl dX12_takes_21 ?_
          refine z_if_ne C0 33 dX12_takes_24 (by decide) (fun c3 => ?_) (fun c3 => ?_)
          · exact k8
          · exact absurd hc7 (fun q => (fun q => (fun q => q c3) q.2) q.2)
  · have h := zif_f hc7 h
    refine z_join μ 27 [(0, .ref (zb g + a0)), (1, .int v1), (2, .int v2)] [] ?_ (fun k9 => ?_)
    · refine z_aload_n C0 dX12_takes_27 rfl 0 rfl ?_
      obtain ⟨μ6, e_μ6, h⟩ := zl_of h
      refine z_callV (As := []) (rest := []) C0 rfl kc_X12_ends km_RX12_106 (r_X12_ends (l := l) (g := g) a0 μ hT0 e_μ6.symm) hT0.1 hT0.2.2.1 rfl (by decide) rfl (Nat.le_of_ble_eq_true rfl) (Nat.le_of_ble_eq_true rfl) (Nat.le_of_ble_eq_true rfl) (Nat.le_of_ble_eq_true rfl) (Nat.le_refl _) rfl rfl dX12_takes_28 ?_
      refine z_iconst (v := (0 : Int32)) C0 dX12_takes_31 (by decide) ?_
      have h := Option.some.inj h
      obtain ⟨rfl, rfl⟩ := Prod.mk.inj h
      exact z_iret C0 rfl dX12_takes_32
    · refine z_if_ne C0 27 dX12_takes_4 (by decide) (fun c1 => ?_) (fun c1 => ?_)
      · exact k9
      · refine z_aload_n C0 dX12_takes_7 rfl 0 rfl ?_
        refine z_geti C0 hT0.1 hT0.2.2.1 kf_12_79 zr_12_5 dX12_takes_8 ?_
        refine z_iconst (v := (3 : Int32)) C0 dX12_takes_11 (by decide) ?_
        refine z_icmp_ne C0 27 dX12_takes_12 (by decide) (fun c2 => ?_) (fun c2 => ?_)
        · exact k9
        · refine z_aload_n C0 dX12_takes_15 rfl 0 rfl ?_
          refine z_geti C0 hT0.1 hT0.2.2.1 kf_12_93 zr_12_7 dX12_takes_16 ?_
          refine z_iload_n C0 dX12_takes_19 rfl 1 rfl ?_
          refine z_iload_n C0 dX12_takes_20 rfl 2 rfl ?_
          refine z_callS (As := [.int (μ a0 7), .int v1, .int v2]) (rest := []) C0 rfl kc_X12_isIn km_RX12_109 (r_X12_isIn (l := l) (g := g) (μ := μ) (μ a0 7) v1 v2 rfl) rfl (Nat.le_of_ble_eq_true rfl) (Nat.le_of_ble_eq_true rfl) (Nat.le_of_ble_eq_true rfl) (Nat.le_of_ble_eq_true rfl) (Nat.le_refl _) rfl rfl dX12_takes_21 ?_
          refine z_if_ne C0 33 dX12_takes_24 (by decide) (fun c3 => ?_) (fun c3 => ?_)
          · exact absurd ⟨c1, ⟨c2, c3⟩⟩ hc7
          · exact k9
def f_X12_endsLine (a0 : Nat) (μ : zM) : Option (zM) :=
  zbd (if ((μ a0 8) = 0) ∧ ((μ a0 5) = (2 : Int32)) then
      zbd (f_X12_advance a0 μ) fun μ4 =>
      some μ4
    else
      zl (f_X12_ends a0 μ) fun μ5 =>
      some μ5) fun μ6 =>
  some μ6
set_option maxHeartbeats 4000000 in
set_option maxRecDepth 100000 in
theorem r_X12_endsLine {l : Launch} {g : zL} (a0 : Nat) (μ : zM) (hT0 : zT zNN zσ1 a0 12) {μr : zM} (h : f_X12_endsLine a0 μ = some μr) : zMet l g yX12_endsLine cX12_endsLine 1 none 5 0 0 zNN zNN zσ1 zσ1 [.ref (zb g + a0)] μ none μr := by
  refine zMet.of (by decide +kernel) (Nat.le_of_ble_eq_true rfl) ?_
  intro p e s m args below meth c C0
  refine z_loc (lo1 := [(0, .ref (zb g + a0))]) rfl ?_
  unfold f_X12_endsLine at h
  refine z_aload_n C0 dX12_endsLine_0 rfl 0 rfl ?_
  refine z_geti C0 hT0.1 hT0.2.2.1 kf_12_102 zr_12_8 dX12_endsLine_1 ?_
  obtain ⟨μ6, e_μ6, h⟩ := zbd_of h
  refine z_join μ6 26 [] [] ?_ (fun k_J3 => ?_)
  · have h := Option.some.inj h
    obtain rfl := h
    exact z_vret C0 rfl dX12_endsLine_26
  · have h := e_μ6
    by_cases hc7 : ((μ a0 8) = 0) ∧ ((μ a0 5) = (2 : Int32))
    · have h := zif_t hc7 h
      refine z_join μ 15 [(0, .ref (zb g + a0))] [] ?_ (fun k8 => ?_)
      · refine z_aload_n C0 dX12_endsLine_15 rfl 0 rfl ?_
        obtain ⟨μ4, e_μ4, h⟩ := zbd_of h
        refine z_callV (As := []) (rest := []) C0 rfl kc_X12_advance km_RX12_117 (r_X12_advance (l := l) (g := g) a0 μ hT0 e_μ4) hT0.1 hT0.2.2.1 rfl (by decide) rfl (Nat.le_of_ble_eq_true rfl) (Nat.le_of_ble_eq_true rfl) (Nat.le_of_ble_eq_true rfl) (Nat.le_of_ble_eq_true rfl) (Nat.le_refl _) rfl rfl dX12_endsLine_16 ?_
        refine z_goto C0 26 dX12_endsLine_19 (by decide) ?_
        refine z_sub (lo1 := []) [] rfl ?_
        obtain rfl := (Option.some.inj h)
        exact k_J3
      · refine z_if_ne C0 22 dX12_endsLine_4 (by decide) (fun c1 => ?_) (fun c1 => ?_)
        · exact absurd hc7 (fun q => c1 q.1)
        · refine z_aload_n C0 dX12_endsLine_7 rfl 0 rfl ?_
          refine z_geti C0 hT0.1 hT0.2.2.1 kf_12_79 zr_12_5 dX12_endsLine_8 ?_
          refine z_iconst (v := (2 : Int32)) C0 dX12_endsLine_11 (by decide) ?_
          refine z_icmp_ne C0 22 dX12_endsLine_12 (by decide) (fun c2 => ?_) (fun c2 => ?_)
          · exact absurd hc7 (fun q => (fun q => c2 q) q.2)
          · exact k8
    · have h := zif_f hc7 h
      refine z_join μ 22 [(0, .ref (zb g + a0))] [] ?_ (fun k9 => ?_)
      · refine z_aload_n C0 dX12_endsLine_22 rfl 0 rfl ?_
        obtain ⟨μ5, e_μ5, h⟩ := zl_of h
        refine z_callV (As := []) (rest := []) C0 rfl kc_X12_ends km_RX12_106 (r_X12_ends (l := l) (g := g) a0 μ hT0 e_μ5.symm) hT0.1 hT0.2.2.1 rfl (by decide) rfl (Nat.le_of_ble_eq_true rfl) (Nat.le_of_ble_eq_true rfl) (Nat.le_of_ble_eq_true rfl) (Nat.le_of_ble_eq_true rfl) (Nat.le_refl _) rfl rfl dX12_endsLine_23 ?_
        refine z_sub (lo1 := []) [] rfl ?_
        obtain rfl := (Option.some.inj h)
        exact k_J3
      · refine z_if_ne C0 22 dX12_endsLine_4 (by decide) (fun c1 => ?_) (fun c1 => ?_)
        · exact k9
        · refine z_aload_n C0 dX12_endsLine_7 rfl 0 rfl ?_
          refine z_geti C0 hT0.1 hT0.2.2.1 kf_12_79 zr_12_5 dX12_endsLine_8 ?_
          refine z_iconst (v := (2 : Int32)) C0 dX12_endsLine_11 (by decide) ?_
          refine z_icmp_ne C0 22 dX12_endsLine_12 (by decide) (fun c2 => ?_) (fun c2 => ?_)
          · exact k9
          · exact absurd ⟨c1, c2⟩ hc7
def f_X12_dayLine (a0 : Nat) (μ : zM) : Option (zM) :=
  zl (μ a0 4) fun x1 =>
  zbd2 (f_X12_takes a0 (13 : Int32) (22 : Int32) μ) fun r2 μ3 =>
  zl (r2 - (13 : Int32)) fun x4 =>
  zl (if ((μ3 a0 8) = 0) ∧ (¬ ((μ3 (a0 + 3) 0) < (40 : Int32))) then
      zl (f_X12_also a0 (3 : Int32) x1 μ3) fun μ8 =>
      μ8
    else
      μ3) fun μ9 =>
  zbd3 (if ¬ x4 = 0 then
      some ((-1 : Int32), (-1 : Int32), μ9)
    else
      zbd2 (f_X12_numbered a0 (0 : Int32) (4 : Int32) μ9) fun r12 μ13 =>
      zbd2 (f_X12_numbered a0 (0 : Int32) (15 : Int32) μ13) fun r14 μ15 =>
      some (r12, r14, μ15)) fun x16 x17 μ18 =>
  zbd2 (if ¬ x4 = (1 : Int32) then
      some (x16, μ18)
    else
      zbd2 (f_X12_numbered a0 (0 : Int32) (4 : Int32) μ18) fun r21 μ22 =>
      some (r21, μ22)) fun x23 μ24 =>
  zbd3 (if ¬ x4 = (2 : Int32) then
      some (x23, x17, μ24)
    else
      zbd2 (f_X12_numbered a0 (0 : Int32) (3 : Int32) μ24) fun r27 μ28 =>
      zbd2 (f_X12_numbered a0 (1 : Int32) (9 : Int32) μ28) fun r29 μ30 =>
      some (r27, r29, μ30)) fun x31 x32 μ33 =>
  zbd2 (if ¬ x4 = (8 : Int32) then
      some (x31, μ33)
    else
      zbd2 (f_X12_numbered a0 (0 : Int32) (15 : Int32) μ33) fun r36 μ37 =>
      some (r36, μ37)) fun x38 μ39 =>
  zbd2 (if ¬ x4 = (9 : Int32) then
      some (x38, μ39)
    else
      zbd2 (f_X12_numbered a0 (1 : Int32) (9 : Int32) μ39) fun r42 μ43 =>
      some (r42, μ43)) fun x44 μ45 =>
  zbd (f_X12_adds a0 (40 : Int32) x4 x44 x32 μ45) fun μ46 =>
  zbd (f_X12_endsLine a0 μ46) fun μ47 =>
  some μ47
set_option maxHeartbeats 4000000 in
set_option maxRecDepth 100000 in
theorem r_X12_dayLine {l : Launch} {g : zL} (a0 : Nat) (μ : zM) (hT0 : zT zNN zσ1 a0 12) {μr : zM} (h : f_X12_dayLine a0 μ = some μr) : zMet l g yX12_dayLine cX12_dayLine 5 none 6 0 0 zNN zNN zσ1 zσ1 [.ref (zb g + a0)] μ none μr := by
  refine zMet.of (by decide +kernel) (Nat.le_of_ble_eq_true rfl) ?_
  intro p e s m args below meth c C0
  refine z_loc (lo1 := [(0, .ref (zb g + a0))]) rfl ?_
  unfold f_X12_dayLine at h
  refine z_aload_n C0 dX12_dayLine_0 rfl 0 rfl ?_
  refine z_geti C0 hT0.1 hT0.2.2.1 kf_12_76 zr_12_4 dX12_dayLine_1 ?_
  obtain ⟨x1, e_x1, h⟩ := zl_of h
  refine z_nm e_x1 ?_
  refine z_istore_n (lo1 := [(1, .int x1), (0, .ref (zb g + a0))]) C0 dX12_dayLine_4 rfl (by decide) rfl ?_
  refine z_aload_n C0 dX12_dayLine_5 rfl 1 rfl ?_
  refine z_bipush (v := (13 : Int32)) C0 dX12_dayLine_6 (by decide) ?_
  refine z_bipush (v := (22 : Int32)) C0 dX12_dayLine_8 (by decide) ?_
  obtain ⟨r2, μ3, e_r2, h⟩ := zbd2_of h
  refine z_callV (As := [.int (13 : Int32), .int (22 : Int32)]) (rest := []) C0 rfl kc_X12_takes km_RX12_127 (r_X12_takes (l := l) (g := g) a0 (13 : Int32) (22 : Int32) μ hT0 e_r2) hT0.1 hT0.2.2.1 rfl (by decide) rfl (Nat.le_of_ble_eq_true rfl) (Nat.le_of_ble_eq_true rfl) (Nat.le_of_ble_eq_true rfl) (Nat.le_of_ble_eq_true rfl) (Nat.le_refl _) rfl rfl dX12_dayLine_10 ?_
  refine z_bipush (v := (13 : Int32)) C0 dX12_dayLine_13 (by decide) ?_
  refine z_isub C0 dX12_dayLine_15 ?_
  obtain ⟨x4, e_x4, h⟩ := zl_of h
  refine z_nm e_x4 ?_
  refine z_istore_n (lo1 := [(2, .int x4), (1, .int x1), (0, .ref (zb g + a0))]) C0 dX12_dayLine_16 rfl (by decide) rfl ?_
  refine z_aload_n C0 dX12_dayLine_17 rfl 2 rfl ?_
  refine z_geti C0 hT0.1 hT0.2.2.1 kf_12_102 zr_12_8 dX12_dayLine_18 ?_
  obtain ⟨μ9, e_μ9, h⟩ := zl_of h
  refine z_join μ9 41 [(0, .ref (zb g + a0)), (2, .int x4)] [] ?_ (fun k_J7 => ?_)
  · refine z_iconst (v := (-1 : Int32)) C0 dX12_dayLine_41 (by decide) ?_
    refine z_istore_n (lo1 := [(3, .int (-1 : Int32)), (0, .ref (zb g + a0)), (2, .int x4)]) C0 dX12_dayLine_42 rfl (by decide) rfl ?_
    refine z_iconst (v := (-1 : Int32)) C0 dX12_dayLine_43 (by decide) ?_
    refine z_istore (lo1 := [(4, .int (-1 : Int32)), (3, .int (-1 : Int32)), (0, .ref (zb g + a0)), (2, .int x4)]) C0 dX12_dayLine_44 (by decide) rfl ?_
    refine z_iload_n C0 dX12_dayLine_46 rfl 3 rfl ?_
    obtain ⟨x16, x17, μ18, e_x16, h⟩ := zbd3_of h
    refine z_join μ18 66 [(0, .ref (zb g + a0)), (2, .int x4), (3, .int x16), (4, .int x17)] [] ?_ (fun k_J11 => ?_)
    · refine z_iload_n C0 dX12_dayLine_66 rfl 1 rfl ?_
      refine z_iconst (v := (1 : Int32)) C0 dX12_dayLine_67 (by decide) ?_
      obtain ⟨x23, μ24, e_x23, h⟩ := zbd2_of h
      refine z_join μ24 78 [(0, .ref (zb g + a0)), (2, .int x4), (3, .int x23), (4, .int x17)] [] ?_ (fun k_J20 => ?_)
      · refine z_iload_n C0 dX12_dayLine_78 rfl 1 rfl ?_
        refine z_iconst (v := (2 : Int32)) C0 dX12_dayLine_79 (by decide) ?_
        obtain ⟨x31, x32, μ33, e_x31, h⟩ := zbd3_of h
        refine z_join μ33 99 [(0, .ref (zb g + a0)), (2, .int x4), (3, .int x31), (4, .int x32)] [] ?_ (fun k_J26 => ?_)
        · refine z_iload_n C0 dX12_dayLine_99 rfl 1 rfl ?_
          refine z_bipush (v := (8 : Int32)) C0 dX12_dayLine_100 (by decide) ?_
          obtain ⟨x38, μ39, e_x38, h⟩ := zbd2_of h
          refine z_join μ39 113 [(0, .ref (zb g + a0)), (2, .int x4), (3, .int x38), (4, .int x32)] [] ?_ (fun k_J35 => ?_)
          · refine z_iload_n C0 dX12_dayLine_113 rfl 1 rfl ?_
            refine z_bipush (v := (9 : Int32)) C0 dX12_dayLine_114 (by decide) ?_
            obtain ⟨x44, μ45, e_x44, h⟩ := zbd2_of h
            refine z_join μ45 127 [(0, .ref (zb g + a0)), (2, .int x4), (3, .int x44), (4, .int x32)] [] ?_ (fun k_J41 => ?_)
            · refine z_aload_n C0 dX12_dayLine_127 rfl 0 rfl ?_
              refine z_bipush (v := (40 : Int32)) C0 dX12_dayLine_128 (by decide) ?_
              refine z_iload_n C0 dX12_dayLine_130 rfl 1 rfl ?_
              refine z_iload_n C0 dX12_dayLine_131 rfl 2 rfl ?_
              refine z_iload C0 dX12_dayLine_132 3 rfl ?_
              obtain ⟨μ46, e_μ46, h⟩ := zbd_of h
              refine z_callV (As := [.int (40 : Int32), .int x4, .int x44, .int x32]) (rest := []) C0 rfl kc_X12_adds km_RX12_140 (r_X12_adds (l := l) (g := g) a0 (40 : Int32) x4 x44 x32 μ45 hT0 e_μ46) hT0.1 hT0.2.2.1 rfl (by decide) rfl (Nat.le_of_ble_eq_true rfl) (Nat.le_of_ble_eq_true rfl) (Nat.le_of_ble_eq_true rfl) (Nat.le_of_ble_eq_true rfl) (Nat.le_refl _) rfl rfl dX12_dayLine_134 ?_
              refine z_aload_n C0 dX12_dayLine_137 rfl 0 rfl ?_
              obtain ⟨μ47, e_μ47, h⟩ := zbd_of h
              refine z_callV (As := []) (rest := []) C0 rfl kc_X12_endsLine km_RX12_137 (r_X12_endsLine (l := l) (g := g) a0 μ46 hT0 e_μ47) hT0.1 hT0.2.2.1 rfl (by decide) rfl (Nat.le_of_ble_eq_true rfl) (Nat.le_of_ble_eq_true rfl) (Nat.le_of_ble_eq_true rfl) (Nat.le_of_ble_eq_true rfl) (Nat.le_refl _) rfl rfl dX12_dayLine_138 ?_
              have h := Option.some.inj h
              obtain rfl := h
              exact z_vret C0 rfl dX12_dayLine_141
            · have h := e_x44
              refine z_icmp_ne C0 127 dX12_dayLine_116 (by decide) (fun c40 => ?_) (fun c40 => ?_)
              · have h := zif_t c40 h
                obtain ⟨rfl, rfl⟩ := Prod.mk.inj (Option.some.inj h)
                exact k_J41
              · have h := zif_f (fun q => q c40) h
                refine z_aload_n C0 dX12_dayLine_119 rfl 0 rfl ?_
                refine z_iconst (v := (1 : Int32)) C0 dX12_dayLine_120 (by decide) ?_
                refine z_bipush (v := (9 : Int32)) C0 dX12_dayLine_121 (by decide) ?_
                obtain ⟨r42, μ43, e_r42, h⟩ := zbd2_of h
                refine z_callV (As := [.int (1 : Int32), .int (9 : Int32)]) (rest := []) C0 rfl kc_X12_numbered km_RX12_123 (r_X12_numbered (l := l) (g := g) a0 (1 : Int32) (9 : Int32) μ39 hT0 e_r42) hT0.1 hT0.2.2.1 rfl (by decide) rfl (Nat.le_of_ble_eq_true rfl) (Nat.le_of_ble_eq_true rfl) (Nat.le_of_ble_eq_true rfl) (Nat.le_of_ble_eq_true rfl) (Nat.le_refl _) rfl rfl dX12_dayLine_123 ?_
                refine z_istore_n (lo1 := [(3, .int r42), (0, .ref (zb g + a0)), (2, .int x4), (4, .int x32)]) C0 dX12_dayLine_126 rfl (by decide) rfl ?_
                refine z_sub (lo1 := [(0, .ref (zb g + a0)), (2, .int x4), (3, .int r42), (4, .int x32)]) [1, 2, 0, 3] rfl ?_
                obtain ⟨rfl, rfl⟩ := Prod.mk.inj (Option.some.inj h)
                exact k_J41
          · have h := e_x38
            refine z_icmp_ne C0 113 dX12_dayLine_102 (by decide) (fun c34 => ?_) (fun c34 => ?_)
            · have h := zif_t c34 h
              obtain ⟨rfl, rfl⟩ := Prod.mk.inj (Option.some.inj h)
              exact k_J35
            · have h := zif_f (fun q => q c34) h
              refine z_aload_n C0 dX12_dayLine_105 rfl 0 rfl ?_
              refine z_iconst (v := (0 : Int32)) C0 dX12_dayLine_106 (by decide) ?_
              refine z_bipush (v := (15 : Int32)) C0 dX12_dayLine_107 (by decide) ?_
              obtain ⟨r36, μ37, e_r36, h⟩ := zbd2_of h
              refine z_callV (As := [.int (0 : Int32), .int (15 : Int32)]) (rest := []) C0 rfl kc_X12_numbered km_RX12_123 (r_X12_numbered (l := l) (g := g) a0 (0 : Int32) (15 : Int32) μ33 hT0 e_r36) hT0.1 hT0.2.2.1 rfl (by decide) rfl (Nat.le_of_ble_eq_true rfl) (Nat.le_of_ble_eq_true rfl) (Nat.le_of_ble_eq_true rfl) (Nat.le_of_ble_eq_true rfl) (Nat.le_refl _) rfl rfl dX12_dayLine_109 ?_
              refine z_istore_n (lo1 := [(3, .int r36), (0, .ref (zb g + a0)), (2, .int x4), (4, .int x32)]) C0 dX12_dayLine_112 rfl (by decide) rfl ?_
              refine z_sub (lo1 := [(0, .ref (zb g + a0)), (2, .int x4), (3, .int r36), (4, .int x32)]) [1, 2, 0, 3] rfl ?_
              obtain ⟨rfl, rfl⟩ := Prod.mk.inj (Option.some.inj h)
              exact k_J35
        · have h := e_x31
          refine z_icmp_ne C0 99 dX12_dayLine_80 (by decide) (fun c25 => ?_) (fun c25 => ?_)
          · have h := zif_t c25 h
            obtain ⟨rfl, h0_⟩ := Prod.mk.inj (Option.some.inj h)
            obtain ⟨rfl, rfl⟩ := Prod.mk.inj h0_
            exact k_J26
          · have h := zif_f (fun q => q c25) h
            refine z_aload_n C0 dX12_dayLine_83 rfl 0 rfl ?_
            refine z_iconst (v := (0 : Int32)) C0 dX12_dayLine_84 (by decide) ?_
            refine z_iconst (v := (3 : Int32)) C0 dX12_dayLine_85 (by decide) ?_
            obtain ⟨r27, μ28, e_r27, h⟩ := zbd2_of h
            refine z_callV (As := [.int (0 : Int32), .int (3 : Int32)]) (rest := []) C0 rfl kc_X12_numbered km_RX12_123 (r_X12_numbered (l := l) (g := g) a0 (0 : Int32) (3 : Int32) μ24 hT0 e_r27) hT0.1 hT0.2.2.1 rfl (by decide) rfl (Nat.le_of_ble_eq_true rfl) (Nat.le_of_ble_eq_true rfl) (Nat.le_of_ble_eq_true rfl) (Nat.le_of_ble_eq_true rfl) (Nat.le_refl _) rfl rfl dX12_dayLine_86 ?_
            refine z_istore_n (lo1 := [(3, .int r27), (0, .ref (zb g + a0)), (2, .int x4), (4, .int x17)]) C0 dX12_dayLine_89 rfl (by decide) rfl ?_
            refine z_aload_n C0 dX12_dayLine_90 rfl 1 rfl ?_
            refine z_iconst (v := (1 : Int32)) C0 dX12_dayLine_91 (by decide) ?_
            refine z_bipush (v := (9 : Int32)) C0 dX12_dayLine_92 (by decide) ?_
            obtain ⟨r29, μ30, e_r29, h⟩ := zbd2_of h
            refine z_callV (As := [.int (1 : Int32), .int (9 : Int32)]) (rest := []) C0 rfl kc_X12_numbered km_RX12_123 (r_X12_numbered (l := l) (g := g) a0 (1 : Int32) (9 : Int32) μ28 hT0 e_r29) hT0.1 hT0.2.2.1 rfl (by decide) rfl (Nat.le_of_ble_eq_true rfl) (Nat.le_of_ble_eq_true rfl) (Nat.le_of_ble_eq_true rfl) (Nat.le_of_ble_eq_true rfl) (Nat.le_refl _) rfl rfl dX12_dayLine_94 ?_
            refine z_istore (lo1 := [(4, .int r29), (3, .int r27), (0, .ref (zb g + a0)), (2, .int x4)]) C0 dX12_dayLine_97 (by decide) rfl ?_
            refine z_sub (lo1 := [(0, .ref (zb g + a0)), (2, .int x4), (3, .int r27), (4, .int r29)]) [2, 3, 1, 0] rfl ?_
            obtain ⟨rfl, h0_⟩ := Prod.mk.inj (Option.some.inj h)
            obtain ⟨rfl, rfl⟩ := Prod.mk.inj h0_
            exact k_J26
      · have h := e_x23
        refine z_icmp_ne C0 78 dX12_dayLine_68 (by decide) (fun c19 => ?_) (fun c19 => ?_)
        · have h := zif_t c19 h
          obtain ⟨rfl, rfl⟩ := Prod.mk.inj (Option.some.inj h)
          exact k_J20
        · have h := zif_f (fun q => q c19) h
          refine z_aload_n C0 dX12_dayLine_71 rfl 0 rfl ?_
          refine z_iconst (v := (0 : Int32)) C0 dX12_dayLine_72 (by decide) ?_
          refine z_iconst (v := (4 : Int32)) C0 dX12_dayLine_73 (by decide) ?_
          obtain ⟨r21, μ22, e_r21, h⟩ := zbd2_of h
          refine z_callV (As := [.int (0 : Int32), .int (4 : Int32)]) (rest := []) C0 rfl kc_X12_numbered km_RX12_123 (r_X12_numbered (l := l) (g := g) a0 (0 : Int32) (4 : Int32) μ18 hT0 e_r21) hT0.1 hT0.2.2.1 rfl (by decide) rfl (Nat.le_of_ble_eq_true rfl) (Nat.le_of_ble_eq_true rfl) (Nat.le_of_ble_eq_true rfl) (Nat.le_of_ble_eq_true rfl) (Nat.le_refl _) rfl rfl dX12_dayLine_74 ?_
          refine z_istore_n (lo1 := [(3, .int r21), (0, .ref (zb g + a0)), (2, .int x4), (4, .int x17)]) C0 dX12_dayLine_77 rfl (by decide) rfl ?_
          refine z_sub (lo1 := [(0, .ref (zb g + a0)), (2, .int x4), (3, .int r21), (4, .int x17)]) [1, 2, 0, 3] rfl ?_
          obtain ⟨rfl, rfl⟩ := Prod.mk.inj (Option.some.inj h)
          exact k_J20
    · have h := e_x16
      refine z_if_ne C0 66 dX12_dayLine_47 (by decide) (fun c10 => ?_) (fun c10 => ?_)
      · have h := zif_t c10 h
        refine z_sub (lo1 := [(0, .ref (zb g + a0)), (2, .int x4), (3, .int (-1 : Int32)), (4, .int (-1 : Int32))]) [2, 3, 1, 0] rfl ?_
        obtain ⟨rfl, h0_⟩ := Prod.mk.inj (Option.some.inj h)
        obtain ⟨rfl, rfl⟩ := Prod.mk.inj h0_
        exact k_J11
      · have h := zif_f (fun q => q c10) h
        refine z_aload_n C0 dX12_dayLine_50 rfl 2 rfl ?_
        refine z_iconst (v := (0 : Int32)) C0 dX12_dayLine_51 (by decide) ?_
        refine z_iconst (v := (4 : Int32)) C0 dX12_dayLine_52 (by decide) ?_
        obtain ⟨r12, μ13, e_r12, h⟩ := zbd2_of h
        refine z_callV (As := [.int (0 : Int32), .int (4 : Int32)]) (rest := []) C0 rfl kc_X12_numbered km_RX12_123 (r_X12_numbered (l := l) (g := g) a0 (0 : Int32) (4 : Int32) μ9 hT0 e_r12) hT0.1 hT0.2.2.1 rfl (by decide) rfl (Nat.le_of_ble_eq_true rfl) (Nat.le_of_ble_eq_true rfl) (Nat.le_of_ble_eq_true rfl) (Nat.le_of_ble_eq_true rfl) (Nat.le_refl _) rfl rfl dX12_dayLine_53 ?_
        refine z_istore_n (lo1 := [(3, .int r12), (4, .int (-1 : Int32)), (0, .ref (zb g + a0)), (2, .int x4)]) C0 dX12_dayLine_56 rfl (by decide) rfl ?_
        refine z_aload_n C0 dX12_dayLine_57 rfl 2 rfl ?_
        refine z_iconst (v := (0 : Int32)) C0 dX12_dayLine_58 (by decide) ?_
        refine z_bipush (v := (15 : Int32)) C0 dX12_dayLine_59 (by decide) ?_
        obtain ⟨r14, μ15, e_r14, h⟩ := zbd2_of h
        refine z_callV (As := [.int (0 : Int32), .int (15 : Int32)]) (rest := []) C0 rfl kc_X12_numbered km_RX12_123 (r_X12_numbered (l := l) (g := g) a0 (0 : Int32) (15 : Int32) μ13 hT0 e_r14) hT0.1 hT0.2.2.1 rfl (by decide) rfl (Nat.le_of_ble_eq_true rfl) (Nat.le_of_ble_eq_true rfl) (Nat.le_of_ble_eq_true rfl) (Nat.le_of_ble_eq_true rfl) (Nat.le_refl _) rfl rfl dX12_dayLine_61 ?_
        refine z_istore (lo1 := [(4, .int r14), (3, .int r12), (0, .ref (zb g + a0)), (2, .int x4)]) C0 dX12_dayLine_64 (by decide) rfl ?_
        refine z_sub (lo1 := [(0, .ref (zb g + a0)), (2, .int x4), (3, .int r12), (4, .int r14)]) [2, 3, 1, 0] rfl ?_
        obtain ⟨rfl, h0_⟩ := Prod.mk.inj (Option.some.inj h)
        obtain ⟨rfl, rfl⟩ := Prod.mk.inj h0_
        exact k_J11
  · have h := e_μ9.symm
    by_cases hc48 : ((μ3 a0 8) = 0) ∧ (¬ ((μ3 (a0 + 3) 0) < (40 : Int32)))
    · have h := zif_t hc48 h
      refine z_join μ3 35 [(2, .int x4), (1, .int x1), (0, .ref (zb g + a0))] [] ?_ (fun k49 => ?_)
      · refine z_aload_n C0 dX12_dayLine_35 rfl 2 rfl ?_
        refine z_iconst (v := (3 : Int32)) C0 dX12_dayLine_36 (by decide) ?_
        refine z_iload_n C0 dX12_dayLine_37 rfl 1 rfl ?_
        obtain ⟨μ8, e_μ8, h⟩ := zl_of h
        refine z_callV (As := [.int (3 : Int32), .int x1]) (rest := []) C0 rfl kc_X12_also km_RX12_113 (r_X12_also (l := l) (g := g) a0 (3 : Int32) x1 μ3 hT0 e_μ8.symm) hT0.1 hT0.2.2.1 rfl (by decide) rfl (Nat.le_of_ble_eq_true rfl) (Nat.le_of_ble_eq_true rfl) (Nat.le_of_ble_eq_true rfl) (Nat.le_of_ble_eq_true rfl) (Nat.le_refl _) rfl rfl dX12_dayLine_38 ?_
        refine z_sub (lo1 := [(0, .ref (zb g + a0)), (2, .int x4)]) [2, 0] rfl ?_
        obtain rfl := h
        exact k_J7
      · refine z_if_ne C0 41 dX12_dayLine_21 (by decide) (fun c5 => ?_) (fun c5 => ?_)
        · exact absurd hc48 (fun q => c5 q.1)
        · refine z_aload_n C0 dX12_dayLine_24 rfl 2 rfl ?_
          refine z_getr C0 hT0 kf_12_17 zr_12_9 zx_12 (zs_12_9 hT0).1 dX12_dayLine_25 ?_
          refine z_iconst (v := (0 : Int32)) C0 dX12_dayLine_28 (by decide) ?_
          refine z_iald (j := 0) C0 (zs_12_9 hT0).2 (by decide : zin (0 : Int32) 121 = true) (by decide) dX12_dayLine_29 ?_
          refine z_bipush (v := (40 : Int32)) C0 dX12_dayLine_30 (by decide) ?_
          refine z_icmp_lt C0 41 dX12_dayLine_32 (by decide) (fun c6 => ?_) (fun c6 => ?_)
          · exact absurd hc48 (fun q => (fun q => q c6) q.2)
          · exact k49
    · have h := zif_f hc48 h
      refine z_join μ3 41 [(2, .int x4), (1, .int x1), (0, .ref (zb g + a0))] [] ?_ (fun k50 => ?_)
      · refine z_sub (lo1 := [(0, .ref (zb g + a0)), (2, .int x4)]) [2, 0] rfl ?_
        obtain rfl := h
        exact k_J7
      · refine z_if_ne C0 41 dX12_dayLine_21 (by decide) (fun c5 => ?_) (fun c5 => ?_)
        · exact k50
        · refine z_aload_n C0 dX12_dayLine_24 rfl 2 rfl ?_
          refine z_getr C0 hT0 kf_12_17 zr_12_9 zx_12 (zs_12_9 hT0).1 dX12_dayLine_25 ?_
          refine z_iconst (v := (0 : Int32)) C0 dX12_dayLine_28 (by decide) ?_
          refine z_iald (j := 0) C0 (zs_12_9 hT0).2 (by decide : zin (0 : Int32) 121 = true) (by decide) dX12_dayLine_29 ?_
          refine z_bipush (v := (40 : Int32)) C0 dX12_dayLine_30 (by decide) ?_
          refine z_icmp_lt C0 41 dX12_dayLine_32 (by decide) (fun c6 => ?_) (fun c6 => ?_)
          · exact k50
          · exact absurd ⟨c5, c6⟩ hc48
def f_X12_dead (a0 : Nat) (v1 : Int32) (v2 : Int32) (μ : zM) : Option (Int32 × zM) :=
  zbd (f_X12_isOf a0 (3 : Int32) v1 μ) fun r1 =>
  if ¬ r1 = 0 then
    zl (zup μ a0 35 (f_X12_placeOf (3 : Int32) v1)) fun μ3 =>
    zbd (if ¬ v2 = (-1 : Int32) then
        zg (zin (μ3 a0 35) 4688) <|
        if (f_X12_isIn v2 (0 : Int32) ((μ3 (a0 + 1) ((μ3 a0 35).toNatClampNeg)) - (1 : Int32))) = 0 then
          some (-2 : Int32)
        else
          zg (zin (((μ3 a0 35) + (1 : Int32)) + v2) 4688) <|
          some (μ3 (a0 + 1) ((((μ3 a0 35) + (1 : Int32)) + v2).toNatClampNeg))
      else
        zg (zin (μ3 a0 35) 4688) <|
        some (μ3 (a0 + 1) ((μ3 a0 35).toNatClampNeg))) fun x14 =>
    some (x14, μ3)
  else
    some ((-2 : Int32), μ)
set_option maxHeartbeats 4000000 in
set_option maxRecDepth 100000 in
theorem r_X12_dead {l : Launch} {g : zL} (a0 : Nat) (v1 : Int32) (v2 : Int32) (μ : zM) (hT0 : zT zNN zσ1 a0 12) {rv : Int32} {μr : zM} (h : f_X12_dead a0 v1 v2 μ = some (rv, μr)) : zMet l g yX12_dead cX12_dead 3 (some (.int)) 2 0 0 zNN zNN zσ1 zσ1 [.ref (zb g + a0), .int v1, .int v2] μ (some (.int rv)) μr := by
  refine zMet.of (by decide +kernel) (Nat.le_of_ble_eq_true rfl) ?_
  intro p e s m args below meth c C0
  refine z_loc (lo1 := [(0, .ref (zb g + a0)), (1, .int v1), (2, .int v2)]) rfl ?_
  unfold f_X12_dead at h
  refine z_aload_n C0 dX12_dead_0 rfl 0 rfl ?_
  refine z_iconst (v := (3 : Int32)) C0 dX12_dead_1 (by decide) ?_
  refine z_iload_n C0 dX12_dead_2 rfl 1 rfl ?_
  obtain ⟨r1, e_r1, h⟩ := zbd_of h
  refine z_callV (As := [.int (3 : Int32), .int v1]) (rest := []) C0 rfl kc_X12_isOf km_RX12_144 (r_X12_isOf (l := l) (g := g) a0 (3 : Int32) v1 μ hT0 e_r1) hT0.1 hT0.2.2.1 rfl (by decide) rfl (Nat.le_of_ble_eq_true rfl) (Nat.le_of_ble_eq_true rfl) (Nat.le_of_ble_eq_true rfl) (Nat.le_of_ble_eq_true rfl) (Nat.le_refl _) rfl rfl dX12_dead_3 ?_
  refine z_if_ne C0 12 dX12_dead_6 (by decide) (fun c2 => ?_) (fun c2 => ?_)
  · have h := zif_t c2 h
    refine z_aload_n C0 dX12_dead_12 rfl 0 rfl ?_
    refine z_iconst (v := (3 : Int32)) C0 dX12_dead_13 (by decide) ?_
    refine z_iload_n C0 dX12_dead_14 rfl 1 rfl ?_
    refine z_callS (As := [.int (3 : Int32), .int v1]) (rest := [.ref (zb g + a0)]) C0 rfl kc_X12_placeOf km_RX12_174 (r_X12_placeOf (l := l) (g := g) (μ := μ) (3 : Int32) v1 rfl) rfl (Nat.le_of_ble_eq_true rfl) (Nat.le_of_ble_eq_true rfl) (Nat.le_of_ble_eq_true rfl) (Nat.le_of_ble_eq_true rfl) (Nat.le_refl _) rfl rfl dX12_dead_15 ?_
    obtain ⟨μ3, e_μ3, h⟩ := zl_of h
    refine z_puti C0 hT0.1 hT0.2.2.1 kf_12_396 zp_12_35 zr_12_35 e_μ3 dX12_dead_18 ?_
    refine z_iload_n C0 dX12_dead_21 rfl 2 rfl ?_
    refine z_iconst (v := (-1 : Int32)) C0 dX12_dead_22 (by decide) ?_
    obtain ⟨x14, e_x14, h⟩ := zbd_of h
    refine z_join μ3 75 [] [.int x14] ?_ (fun k_J9 => ?_)
    · have h := Option.some.inj h
      obtain ⟨rfl, rfl⟩ := Prod.mk.inj h
      exact z_iret C0 rfl dX12_dead_75
    · have h := e_x14
      refine z_icmp_ne C0 38 dX12_dead_23 (by decide) (fun c4 => ?_) (fun c4 => ?_)
      · have h := zif_t c4 h
        refine z_iload_n C0 dX12_dead_38 rfl 2 rfl ?_
        refine z_iconst (v := (0 : Int32)) C0 dX12_dead_39 (by decide) ?_
        refine z_aload_n C0 dX12_dead_40 rfl 0 rfl ?_
        refine z_getr C0 hT0 kf_12_7 zr_12_0 zx_12 (zs_12_0 hT0).1 dX12_dead_41 ?_
        refine z_aload_n C0 dX12_dead_44 rfl 0 rfl ?_
        refine z_geti C0 hT0.1 hT0.2.2.1 kf_12_396 zr_12_35 dX12_dead_45 ?_
        obtain ⟨g10, h⟩ := zg_of h
        refine z_iald C0 (zs_12_0 hT0).2 g10 rfl dX12_dead_48 ?_
        refine z_iconst (v := (1 : Int32)) C0 dX12_dead_49 (by decide) ?_
        refine z_isub C0 dX12_dead_50 ?_
        refine z_callS (As := [.int v2, .int (0 : Int32), .int ((μ3 (a0 + 1) ((μ3 a0 35).toNatClampNeg)) - (1 : Int32))]) (rest := []) C0 rfl kc_X12_isIn km_RX12_109 (r_X12_isIn (l := l) (g := g) (μ := μ3) v2 (0 : Int32) ((μ3 (a0 + 1) ((μ3 a0 35).toNatClampNeg)) - (1 : Int32)) rfl) rfl (Nat.le_of_ble_eq_true rfl) (Nat.le_of_ble_eq_true rfl) (Nat.le_of_ble_eq_true rfl) (Nat.le_of_ble_eq_true rfl) (Nat.le_refl _) rfl rfl dX12_dead_51 ?_
        refine z_if_eq C0 73 dX12_dead_54 (by decide) (fun c11 => ?_) (fun c11 => ?_)
        · have h := zif_t c11 h
          refine z_bipush (v := (-2 : Int32)) C0 dX12_dead_73 (by decide) ?_
          refine z_sub (lo1 := []) [] rfl ?_
          obtain rfl := (Option.some.inj h)
          exact k_J9
        · have h := zif_f c11 h
          refine z_aload_n C0 dX12_dead_57 rfl 0 rfl ?_
          refine z_getr C0 hT0 kf_12_7 zr_12_0 zx_12 (zs_12_0 hT0).1 dX12_dead_58 ?_
          refine z_aload_n C0 dX12_dead_61 rfl 0 rfl ?_
          refine z_geti C0 hT0.1 hT0.2.2.1 kf_12_396 zr_12_35 dX12_dead_62 ?_
          refine z_iconst (v := (1 : Int32)) C0 dX12_dead_65 (by decide) ?_
          refine z_iadd C0 dX12_dead_66 ?_
          refine z_iload_n C0 dX12_dead_67 rfl 2 rfl ?_
          refine z_iadd C0 dX12_dead_68 ?_
          obtain ⟨g12, h⟩ := zg_of h
          refine z_iald C0 (zs_12_0 hT0).2 g12 rfl dX12_dead_69 ?_
          refine z_goto C0 75 dX12_dead_70 (by decide) ?_
          refine z_sub (lo1 := []) [] rfl ?_
          obtain rfl := (Option.some.inj h)
          exact k_J9
      · have h := zif_f (fun q => q c4) h
        refine z_aload_n C0 dX12_dead_26 rfl 0 rfl ?_
        refine z_getr C0 hT0 kf_12_7 zr_12_0 zx_12 (zs_12_0 hT0).1 dX12_dead_27 ?_
        refine z_aload_n C0 dX12_dead_30 rfl 0 rfl ?_
        refine z_geti C0 hT0.1 hT0.2.2.1 kf_12_396 zr_12_35 dX12_dead_31 ?_
        obtain ⟨g13, h⟩ := zg_of h
        refine z_iald C0 (zs_12_0 hT0).2 g13 rfl dX12_dead_34 ?_
        refine z_goto C0 75 dX12_dead_35 (by decide) ?_
        refine z_sub (lo1 := []) [] rfl ?_
        obtain rfl := (Option.some.inj h)
        exact k_J9
  · have h := zif_f (fun q => q c2) h
    refine z_bipush (v := (-2 : Int32)) C0 dX12_dead_9 (by decide) ?_
    have h := Option.some.inj h
    obtain ⟨rfl, rfl⟩ := Prod.mk.inj h
    exact z_iret C0 rfl dX12_dead_11
def f_X12_deeds (a0 : Nat) (μ : zM) : Option (Int32) :=
  zg (zin (μ a0 11) 4688) <|
  some (μ (a0 + 1) ((μ a0 11).toNatClampNeg))
set_option maxHeartbeats 4000000 in
set_option maxRecDepth 100000 in
theorem r_X12_deeds {l : Launch} {g : zL} (a0 : Nat) (μ : zM) (hT0 : zT zNN zσ1 a0 12) {rv : Int32} (h : f_X12_deeds a0 μ = some rv) : zMet l g yX12_deeds cX12_deeds 1 (some (.int)) 0 0 0 zNN zNN zσ1 zσ1 [.ref (zb g + a0)] μ (some (.int rv)) μ := by
  refine zMet.of (by decide +kernel) (Nat.le_of_ble_eq_true rfl) ?_
  intro p e s m args below meth c C0
  refine z_loc (lo1 := [(0, .ref (zb g + a0))]) rfl ?_
  unfold f_X12_deeds at h
  refine z_aload_n C0 dX12_deeds_0 rfl 0 rfl ?_
  refine z_getr C0 hT0 kf_12_7 zr_12_0 zx_12 (zs_12_0 hT0).1 dX12_deeds_1 ?_
  refine z_aload_n C0 dX12_deeds_4 rfl 0 rfl ?_
  refine z_geti C0 hT0.1 hT0.2.2.1 kf_12_209 zr_12_11 dX12_deeds_5 ?_
  obtain ⟨g1, h⟩ := zg_of h
  refine z_iald C0 (zs_12_0 hT0).2 g1 rfl dX12_deeds_8 ?_
  have h := Option.some.inj h
  obtain rfl := h
  exact z_iret C0 rfl dX12_deeds_9
def f_X12_deed (a0 : Nat) (v1 : Int32) (v2 : Int32) (v3 : Int32) (μ : zM) : Option (Int32 × zM) :=
  zbd (f_X12_isOf a0 (1 : Int32) v1 μ) fun r1 =>
  if ¬ r1 = 0 then
    zl (zup μ a0 11 (f_X12_placeOf (1 : Int32) v1)) fun μ3 =>
    if ¬ v2 = (-1 : Int32) then
      zbd (f_X12_deeds a0 μ3) fun r11 =>
      zbd (if (¬ ((f_X12_isIn v2 (0 : Int32) (r11 - (1 : Int32))) = 0)) ∧ (¬ ((f_X12_isIn v3 (0 : Int32) (2 : Int32)) = 0)) then
          zbd (f_X12_deedOf a0 v2 v3 μ3) fun r15 =>
          some r15
        else
          some (-2 : Int32)) fun x16 =>
      some (x16, μ3)
    else
      zbd (if ¬ v3 = 0 then
          some (-2 : Int32)
        else
          zbd (f_X12_deeds a0 μ3) fun r19 =>
          some r19) fun x20 =>
      some (x20, μ3)
  else
    some ((-2 : Int32), μ)
set_option maxHeartbeats 4000000 in
set_option maxRecDepth 100000 in
theorem r_X12_deed {l : Launch} {g : zL} (a0 : Nat) (v1 : Int32) (v2 : Int32) (v3 : Int32) (μ : zM) (hT0 : zT zNN zσ1 a0 12) {rv : Int32} {μr : zM} (h : f_X12_deed a0 v1 v2 v3 μ = some (rv, μr)) : zMet l g yX12_deed cX12_deed 4 (some (.int)) 2 0 0 zNN zNN zσ1 zσ1 [.ref (zb g + a0), .int v1, .int v2, .int v3] μ (some (.int rv)) μr := by
  refine zMet.of (by decide +kernel) (Nat.le_of_ble_eq_true rfl) ?_
  intro p e s m args below meth c C0
  refine z_loc (lo1 := [(0, .ref (zb g + a0)), (1, .int v1), (2, .int v2), (3, .int v3)]) rfl ?_
  unfold f_X12_deed at h
  refine z_aload_n C0 dX12_deed_0 rfl 0 rfl ?_
  refine z_iconst (v := (1 : Int32)) C0 dX12_deed_1 (by decide) ?_
  refine z_iload_n C0 dX12_deed_2 rfl 1 rfl ?_
  obtain ⟨r1, e_r1, h⟩ := zbd_of h
  refine z_callV (As := [.int (1 : Int32), .int v1]) (rest := []) C0 rfl kc_X12_isOf km_RX12_144 (r_X12_isOf (l := l) (g := g) a0 (1 : Int32) v1 μ hT0 e_r1) hT0.1 hT0.2.2.1 rfl (by decide) rfl (Nat.le_of_ble_eq_true rfl) (Nat.le_of_ble_eq_true rfl) (Nat.le_of_ble_eq_true rfl) (Nat.le_of_ble_eq_true rfl) (Nat.le_refl _) rfl rfl dX12_deed_3 ?_
  refine z_if_ne C0 12 dX12_deed_6 (by decide) (fun c2 => ?_) (fun c2 => ?_)
  · have h := zif_t c2 h
    refine z_aload_n C0 dX12_deed_12 rfl 0 rfl ?_
    refine z_iconst (v := (1 : Int32)) C0 dX12_deed_13 (by decide) ?_
    refine z_iload_n C0 dX12_deed_14 rfl 1 rfl ?_
    refine z_callS (As := [.int (1 : Int32), .int v1]) (rest := [.ref (zb g + a0)]) C0 rfl kc_X12_placeOf km_RX12_174 (r_X12_placeOf (l := l) (g := g) (μ := μ) (1 : Int32) v1 rfl) rfl (Nat.le_of_ble_eq_true rfl) (Nat.le_of_ble_eq_true rfl) (Nat.le_of_ble_eq_true rfl) (Nat.le_of_ble_eq_true rfl) (Nat.le_refl _) rfl rfl dX12_deed_15 ?_
    obtain ⟨μ3, e_μ3, h⟩ := zl_of h
    refine z_puti C0 hT0.1 hT0.2.2.1 kf_12_209 zp_12_11 zr_12_11 e_μ3 dX12_deed_18 ?_
    refine z_iload_n C0 dX12_deed_21 rfl 2 rfl ?_
    refine z_iconst (v := (-1 : Int32)) C0 dX12_deed_22 (by decide) ?_
    refine z_icmp_ne C0 40 dX12_deed_23 (by decide) (fun c4 => ?_) (fun c4 => ?_)
    · have h := zif_t c4 h
      refine z_iload_n C0 dX12_deed_40 rfl 2 rfl ?_
      refine z_iconst (v := (0 : Int32)) C0 dX12_deed_41 (by decide) ?_
      refine z_aload_n C0 dX12_deed_42 rfl 0 rfl ?_
      obtain ⟨r11, e_r11, h⟩ := zbd_of h
      refine z_callV (As := []) (rest := [.int (0 : Int32), .int v2]) C0 rfl kc_X12_deeds km_RX12_212 (r_X12_deeds (l := l) (g := g) a0 μ3 hT0 e_r11) hT0.1 hT0.2.2.1 rfl (by decide) rfl (Nat.le_of_ble_eq_true rfl) (Nat.le_of_ble_eq_true rfl) (Nat.le_of_ble_eq_true rfl) (Nat.le_of_ble_eq_true rfl) (Nat.le_refl _) rfl rfl dX12_deed_43 ?_
      refine z_iconst (v := (1 : Int32)) C0 dX12_deed_46 (by decide) ?_
      refine z_isub C0 dX12_deed_47 ?_
      refine z_callS (As := [.int v2, .int (0 : Int32), .int (r11 - (1 : Int32))]) (rest := []) C0 rfl kc_X12_isIn km_RX12_109 (r_X12_isIn (l := l) (g := g) (μ := μ3) v2 (0 : Int32) (r11 - (1 : Int32)) rfl) rfl (Nat.le_of_ble_eq_true rfl) (Nat.le_of_ble_eq_true rfl) (Nat.le_of_ble_eq_true rfl) (Nat.le_of_ble_eq_true rfl) (Nat.le_refl _) rfl rfl dX12_deed_48 ?_
      obtain ⟨x16, e_x16, h⟩ := zbd_of h
      refine z_join μ3 74 [] [.int x16] ?_ (fun k_J14 => ?_)
      · have h := Option.some.inj h
        obtain ⟨rfl, rfl⟩ := Prod.mk.inj h
        exact z_iret C0 rfl dX12_deed_74
      · have h := e_x16
        by_cases hc21 : (¬ ((f_X12_isIn v2 (0 : Int32) (r11 - (1 : Int32))) = 0)) ∧ (¬ ((f_X12_isIn v3 (0 : Int32) (2 : Int32)) = 0))
        · have h := zif_t hc21 h
          refine z_join μ3 63 [(0, .ref (zb g + a0)), (1, .int v1), (2, .int v2), (3, .int v3)] [] ?_ (fun k22 => ?_)
          · refine z_aload_n C0 dX12_deed_63 rfl 0 rfl ?_
            refine z_iload_n C0 dX12_deed_64 rfl 2 rfl ?_
            refine z_iload_n C0 dX12_deed_65 rfl 3 rfl ?_
            obtain ⟨r15, e_r15, h⟩ := zbd_of h
            refine z_callV (As := [.int v2, .int v3]) (rest := []) C0 rfl kc_X12_deedOf km_RX12_215 (r_X12_deedOf (l := l) (g := g) a0 v2 v3 μ3 hT0 e_r15) hT0.1 hT0.2.2.1 rfl (by decide) rfl (Nat.le_of_ble_eq_true rfl) (Nat.le_of_ble_eq_true rfl) (Nat.le_of_ble_eq_true rfl) (Nat.le_of_ble_eq_true rfl) (Nat.le_refl _) rfl rfl dX12_deed_66 ?_
            refine z_goto C0 74 dX12_deed_69 (by decide) ?_
            refine z_sub (lo1 := []) [] rfl ?_
            obtain rfl := (Option.some.inj h)
            exact k_J14
          · refine z_if_eq C0 72 dX12_deed_51 (by decide) (fun c12 => ?_) (fun c12 => ?_)
            · exact absurd hc21 (fun q => q.1 c12)
            · refine z_iload_n C0 dX12_deed_54 rfl 3 rfl ?_
              refine z_iconst (v := (0 : Int32)) C0 dX12_deed_55 (by decide) ?_
              refine z_iconst (v := (2 : Int32)) C0 dX12_deed_56 (by decide) ?_
              refine z_callS (As := [.int v3, .int (0 : Int32), .int (2 : Int32)]) (rest := []) C0 rfl kc_X12_isIn km_RX12_109 (r_X12_isIn (l := l) (g := g) (μ := μ3) v3 (0 : Int32) (2 : Int32) rfl) rfl (Nat.le_of_ble_eq_true rfl) (Nat.le_of_ble_eq_true rfl) (Nat.le_of_ble_eq_true rfl) (Nat.le_of_ble_eq_true rfl) (Nat.le_refl _) rfl rfl dX12_deed_57 ?_
              refine z_if_eq C0 72 dX12_deed_60 (by decide) (fun c13 => ?_) (fun c13 => ?_)
              · exact absurd hc21 (fun q => (fun q => q c13) q.2)
              · exact k22
        · have h := zif_f hc21 h
          refine z_join μ3 72 [(0, .ref (zb g + a0)), (1, .int v1), (2, .int v2), (3, .int v3)] [] ?_ (fun k23 => ?_)
          · refine z_bipush (v := (-2 : Int32)) C0 dX12_deed_72 (by decide) ?_
            refine z_sub (lo1 := []) [] rfl ?_
            obtain rfl := (Option.some.inj h)
            exact k_J14
          · refine z_if_eq C0 72 dX12_deed_51 (by decide) (fun c12 => ?_) (fun c12 => ?_)
            · exact k23
            · refine z_iload_n C0 dX12_deed_54 rfl 3 rfl ?_
              refine z_iconst (v := (0 : Int32)) C0 dX12_deed_55 (by decide) ?_
              refine z_iconst (v := (2 : Int32)) C0 dX12_deed_56 (by decide) ?_
              refine z_callS (As := [.int v3, .int (0 : Int32), .int (2 : Int32)]) (rest := []) C0 rfl kc_X12_isIn km_RX12_109 (r_X12_isIn (l := l) (g := g) (μ := μ3) v3 (0 : Int32) (2 : Int32) rfl) rfl (Nat.le_of_ble_eq_true rfl) (Nat.le_of_ble_eq_true rfl) (Nat.le_of_ble_eq_true rfl) (Nat.le_of_ble_eq_true rfl) (Nat.le_refl _) rfl rfl dX12_deed_57 ?_
              refine z_if_eq C0 72 dX12_deed_60 (by decide) (fun c13 => ?_) (fun c13 => ?_)
              · exact k23
              · exact absurd ⟨c12, c13⟩ hc21
    · have h := zif_f (fun q => q c4) h
      refine z_iload_n C0 dX12_deed_26 rfl 3 rfl ?_
      obtain ⟨x20, e_x20, h⟩ := zbd_of h
      refine z_join μ3 39 [] [.int x20] ?_ (fun k_J18 => ?_)
      · have h := Option.some.inj h
        obtain ⟨rfl, rfl⟩ := Prod.mk.inj h
        exact z_iret C0 rfl dX12_deed_39
      · have h := e_x20
        refine z_if_ne C0 37 dX12_deed_27 (by decide) (fun c17 => ?_) (fun c17 => ?_)
        · have h := zif_t c17 h
          refine z_bipush (v := (-2 : Int32)) C0 dX12_deed_37 (by decide) ?_
          refine z_sub (lo1 := []) [] rfl ?_
          obtain rfl := (Option.some.inj h)
          exact k_J18
        · have h := zif_f (fun q => q c17) h
          refine z_aload_n C0 dX12_deed_30 rfl 0 rfl ?_
          obtain ⟨r19, e_r19, h⟩ := zbd_of h
          refine z_callV (As := []) (rest := []) C0 rfl kc_X12_deeds km_RX12_212 (r_X12_deeds (l := l) (g := g) a0 μ3 hT0 e_r19) hT0.1 hT0.2.2.1 rfl (by decide) rfl (Nat.le_of_ble_eq_true rfl) (Nat.le_of_ble_eq_true rfl) (Nat.le_of_ble_eq_true rfl) (Nat.le_of_ble_eq_true rfl) (Nat.le_refl _) rfl rfl dX12_deed_31 ?_
          refine z_goto C0 39 dX12_deed_34 (by decide) ?_
          refine z_sub (lo1 := []) [] rfl ?_
          obtain rfl := (Option.some.inj h)
          exact k_J18
  · have h := zif_f (fun q => q c2) h
    refine z_bipush (v := (-2 : Int32)) C0 dX12_deed_9 (by decide) ?_
    have h := Option.some.inj h
    obtain ⟨rfl, rfl⟩ := Prod.mk.inj h
    exact z_iret C0 rfl dX12_deed_11
def f_X12_isKnown_L19 (a0 : Nat) (v1 : Int32) (x2 : Int32) (μ6 : zM) : Nat → Int32 → Int32 → Option (Int32)
  | 0, _, _ => none
  | n + 1, y4, y5 =>
    if (¬ (x2 < y5)) ∧ (¬ (y4 = 0)) then
      zg (zin (((256 : Int32) * (x2 &&& (y5 ^^^ (-1 : Int32)))) + v1) 65536) <|
      zbd (zbd (if (μ6 (a0 + 13) ((((256 : Int32) * (x2 &&& (y5 ^^^ (-1 : Int32)))) + v1).toNatClampNeg)) = 0 then
            some false
          else
            zg (zin (((256 : Int32) * y5) + ((255 : Int32) &&& (v1 ^^^ (-1 : Int32)))) 65536) <|
            if (2 : Int32) ≤ (μ6 (a0 + 13) ((((256 : Int32) * y5) + ((255 : Int32) &&& (v1 ^^^ (-1 : Int32)))).toNatClampNeg)) then
              some true
            else
              some false) fun b22 =>
        if b22 = true then
          some (0 : Int32)
        else
          some (1 : Int32)) fun x24 =>
      zl (y5 + (1 : Int32)) fun x25 =>
      f_X12_isKnown_L19 a0 v1 x2 μ6 n x24 x25
    else
      some y4
def f_X12_isKnown (a0 : Nat) (v1 : Int32) (μ : zM) : Option (Int32) :=
  zg (zin (μ a0 35) 4688) <|
  zl (((1 : Int32) <<< ((μ (a0 + 1) ((μ a0 35).toNatClampNeg)) &&& 31)) - (1 : Int32)) fun x2 =>
  zbd (f_X12_isKnown_L19 a0 v1 x2 μ zFU (1 : Int32) (0 : Int32)) fun x26 =>
  zg (z01 x26) <|
  some x26
set_option maxHeartbeats 4000000 in
set_option maxRecDepth 100000 in
theorem r_X12_isKnown_L19 {l : Launch} {g : zL} {p : Program} {e : Env} {s : State} {m : MethodId} {args : Array Value} {below : List Frame} {meth : Method} {c : Code} {Q : State → Prop} (C0 : zC p s m args meth c g cX12_isKnown yX12_isKnown 5 (some (.boolean))) (a0 : Nat) (v1 : Int32) (x2 : Int32) (μ6 : zM) (hU3 : zT zNN zσ1 a0 12) : ∀ (n : Nat) (y4 : Int32) (y5 : Int32) (x26 : Int32), f_X12_isKnown_L19 a0 v1 x2 μ6 n y4 y5 = some x26 → Z p l e (zrm 0 0 0) s m args below meth c g Q 5 zNN 0 0 zσ1 μ6 84 [(3, .int x26)] [] → Z p l e (zrm 0 0 0) s m args below meth c g Q 5 zNN 0 0 zσ1 μ6 19 [(0, .ref (zb g + a0)), (1, .int v1), (2, .int x2), (3, .int y4), (4, .int y5)] [] := by
  intro n
  induction n with
  | zero =>
    intro y4 y5 x26 h kx
    rw [f_X12_isKnown_L19] at h
    cases h
  | succ n ih =>
    intro y4 y5 x26 h kx
    rw [f_X12_isKnown_L19] at h
    refine z_iload C0 dX12_isKnown_19 4 rfl ?_
    refine z_iload_n C0 dX12_isKnown_21 rfl 2 rfl ?_
    by_cases hc28 : (¬ (x2 < y5)) ∧ (¬ (y4 = 0))
    · have h := zif_t hc28 h
      refine z_join μ6 29 [(0, .ref (zb g + a0)), (1, .int v1), (2, .int x2), (3, .int y4), (4, .int y5)] [] ?_ (fun k29 => ?_)
      · refine z_aload_n C0 dX12_isKnown_29 rfl 0 rfl ?_
        refine z_getr C0 hU3 kf_12_48 zr_12_36 zx_12 (zs_12_36 hU3).1 dX12_isKnown_30 ?_
        refine z_sipush (v := (256 : Int32)) C0 dX12_isKnown_33 (by decide) ?_
        refine z_iload_n C0 dX12_isKnown_36 rfl 2 rfl ?_
        refine z_iload C0 dX12_isKnown_37 4 rfl ?_
        refine z_iconst (v := (-1 : Int32)) C0 dX12_isKnown_39 (by decide) ?_
        refine z_ixor C0 dX12_isKnown_40 ?_
        refine z_iand C0 dX12_isKnown_41 ?_
        refine z_imul C0 dX12_isKnown_42 ?_
        refine z_iload_n C0 dX12_isKnown_43 rfl 1 rfl ?_
        refine z_iadd C0 dX12_isKnown_44 ?_
        obtain ⟨g17, h⟩ := zg_of h
        refine z_iald C0 (zs_12_36 hU3).2 g17 rfl dX12_isKnown_45 ?_
        obtain ⟨x24, e_x24, h⟩ := zbd_of h
        refine z_join μ6 77 [(0, .ref (zb g + a0)), (1, .int v1), (2, .int x2), (4, .int y5)] [.int x24] ?_ (fun k_J23 => ?_)
        · refine z_istore_n (lo1 := [(3, .int x24), (0, .ref (zb g + a0)), (1, .int v1), (2, .int x2), (4, .int y5)]) C0 dX12_isKnown_77 rfl (by decide) rfl ?_
          obtain ⟨x25, e_x25, h⟩ := zl_of h
          refine z_iinc (lo1 := [(4, .int x25), (3, .int x24), (0, .ref (zb g + a0)), (1, .int v1), (2, .int x2)]) C0 dX12_isKnown_78 4 rfl (by decide) e_x25.symm (by decide) rfl ?_
          refine z_goto C0 19 dX12_isKnown_81 (by decide) ?_
          refine z_sub (lo1 := [(0, .ref (zb g + a0)), (1, .int v1), (2, .int x2), (3, .int x24), (4, .int x25)]) [2, 3, 4, 1, 0] rfl ?_
          exact ih _ _ _ h kx
        · have h := e_x24
          obtain ⟨b22, e_b22, h⟩ := zbd_of h
          refine z_joinb b22 μ6 76 72 [(0, .ref (zb g + a0)), (1, .int v1), (2, .int x2), (3, .int y4), (4, .int y5)] [] (fun z32 => ?_) (fun z32 => ?_) (fun k30 k31 => ?_)
          · have h := zif_t z32 h
            refine z_iconst (v := (0 : Int32)) C0 dX12_isKnown_76 (by decide) ?_
            refine z_sub (lo1 := [(0, .ref (zb g + a0)), (1, .int v1), (2, .int x2), (4, .int y5)]) [0, 1, 2, 4] rfl ?_
            obtain rfl := (Option.some.inj h)
            exact k_J23
          · have h := zif_f (fun q => Bool.noConfusion (z32.symm.trans q)) h
            refine z_iconst (v := (1 : Int32)) C0 dX12_isKnown_72 (by decide) ?_
            refine z_goto C0 77 dX12_isKnown_73 (by decide) ?_
            refine z_sub (lo1 := [(0, .ref (zb g + a0)), (1, .int v1), (2, .int x2), (4, .int y5)]) [0, 1, 2, 4] rfl ?_
            obtain rfl := (Option.some.inj h)
            exact k_J23
          · have h := e_b22
            refine z_if_eq C0 72 dX12_isKnown_46 (by decide) (fun c18 => ?_) (fun c18 => ?_)
            · have h := zif_t c18 h
              exact k31 (Option.some.inj h).symm
            · have h := zif_f c18 h
              refine z_aload_n C0 dX12_isKnown_49 rfl 0 rfl ?_
              refine z_getr C0 hU3 kf_12_48 zr_12_36 zx_12 (zs_12_36 hU3).1 dX12_isKnown_50 ?_
              refine z_sipush (v := (256 : Int32)) C0 dX12_isKnown_53 (by decide) ?_
              refine z_iload C0 dX12_isKnown_56 4 rfl ?_
              refine z_imul C0 dX12_isKnown_58 ?_
              refine z_sipush (v := (255 : Int32)) C0 dX12_isKnown_59 (by decide) ?_
              refine z_iload_n C0 dX12_isKnown_62 rfl 1 rfl ?_
              refine z_iconst (v := (-1 : Int32)) C0 dX12_isKnown_63 (by decide) ?_
              refine z_ixor C0 dX12_isKnown_64 ?_
              refine z_iand C0 dX12_isKnown_65 ?_
              refine z_iadd C0 dX12_isKnown_66 ?_
              obtain ⟨g20, h⟩ := zg_of h
              refine z_iald C0 (zs_12_36 hU3).2 g20 rfl dX12_isKnown_67 ?_
              refine z_iconst (v := (2 : Int32)) C0 dX12_isKnown_68 (by decide) ?_
              refine z_icmp_ge C0 76 dX12_isKnown_69 (by decide) (fun c21 => ?_) (fun c21 => ?_)
              · have h := zif_t c21 h
                exact k30 (Option.some.inj h).symm
              · have h := zif_f c21 h
                exact k31 (Option.some.inj h).symm
      · refine z_icmp_gt C0 84 dX12_isKnown_22 (by decide) (fun c7 => ?_) (fun c7 => ?_)
        · exact absurd hc28 (fun q => q.1 c7)
        · refine z_iload_n C0 dX12_isKnown_25 rfl 3 rfl ?_
          refine z_if_eq C0 84 dX12_isKnown_26 (by decide) (fun c15 => ?_) (fun c15 => ?_)
          · exact absurd hc28 (fun q => (fun q => q c15) q.2)
          · exact k29
    · have h := zif_f hc28 h
      refine z_join μ6 84 [(0, .ref (zb g + a0)), (1, .int v1), (2, .int x2), (3, .int y4), (4, .int y5)] [] ?_ (fun k33 => ?_)
      · refine z_sub (lo1 := [(3, .int y4)]) [3] rfl ?_
        obtain rfl := (Option.some.inj h)
        exact kx
      · refine z_icmp_gt C0 84 dX12_isKnown_22 (by decide) (fun c7 => ?_) (fun c7 => ?_)
        · exact k33
        · refine z_iload_n C0 dX12_isKnown_25 rfl 3 rfl ?_
          refine z_if_eq C0 84 dX12_isKnown_26 (by decide) (fun c15 => ?_) (fun c15 => ?_)
          · exact k33
          · exact absurd ⟨c7, c15⟩ hc28
set_option maxHeartbeats 4000000 in
set_option maxRecDepth 100000 in
theorem r_X12_isKnown {l : Launch} {g : zL} (a0 : Nat) (v1 : Int32) (μ : zM) (hT0 : zT zNN zσ1 a0 12) {rv : Int32} (h : f_X12_isKnown a0 v1 μ = some rv) : zMet l g yX12_isKnown cX12_isKnown 5 (some (.boolean)) 0 0 0 zNN zNN zσ1 zσ1 [.ref (zb g + a0), .int v1] μ (some (.int rv)) μ := by
  refine zMet.of (by decide +kernel) (Nat.le_of_ble_eq_true rfl) ?_
  intro p e s m args below meth c C0
  refine z_loc (lo1 := [(0, .ref (zb g + a0)), (1, .int v1)]) rfl ?_
  unfold f_X12_isKnown at h
  refine z_iconst (v := (1 : Int32)) C0 dX12_isKnown_0 (by decide) ?_
  refine z_aload_n C0 dX12_isKnown_1 rfl 0 rfl ?_
  refine z_getr C0 hT0 kf_12_7 zr_12_0 zx_12 (zs_12_0 hT0).1 dX12_isKnown_2 ?_
  refine z_aload_n C0 dX12_isKnown_5 rfl 0 rfl ?_
  refine z_geti C0 hT0.1 hT0.2.2.1 kf_12_396 zr_12_35 dX12_isKnown_6 ?_
  obtain ⟨g1, h⟩ := zg_of h
  refine z_iald C0 (zs_12_0 hT0).2 g1 rfl dX12_isKnown_9 ?_
  refine z_ishl C0 dX12_isKnown_10 ?_
  refine z_iconst (v := (1 : Int32)) C0 dX12_isKnown_11 (by decide) ?_
  refine z_isub C0 dX12_isKnown_12 ?_
  obtain ⟨x2, e_x2, h⟩ := zl_of h
  refine z_nm e_x2 ?_
  refine z_istore_n (lo1 := [(2, .int x2), (0, .ref (zb g + a0)), (1, .int v1)]) C0 dX12_isKnown_13 rfl (by decide) rfl ?_
  refine z_iconst (v := (1 : Int32)) C0 dX12_isKnown_14 (by decide) ?_
  refine z_istore_n (lo1 := [(3, .int (1 : Int32)), (2, .int x2), (0, .ref (zb g + a0)), (1, .int v1)]) C0 dX12_isKnown_15 rfl (by decide) rfl ?_
  refine z_iconst (v := (0 : Int32)) C0 dX12_isKnown_16 (by decide) ?_
  refine z_istore (lo1 := [(4, .int (0 : Int32)), (3, .int (1 : Int32)), (2, .int x2), (0, .ref (zb g + a0)), (1, .int v1)]) C0 dX12_isKnown_17 (by decide) rfl ?_
  refine z_sub (lo1 := [(0, .ref (zb g + a0)), (1, .int v1), (2, .int x2), (3, .int (1 : Int32)), (4, .int (0 : Int32))]) [3, 4, 2, 1, 0] rfl ?_
  obtain ⟨x26, e_x26, h⟩ := zbd_of h
  refine r_X12_isKnown_L19 C0 a0 v1 x2 μ hT0 zFU (1 : Int32) (0 : Int32) x26 e_x26 ?_
  refine z_iload_n C0 dX12_isKnown_84 rfl 0 rfl ?_
  obtain ⟨g27, h⟩ := zg_of h
  have h := Option.some.inj h
  obtain rfl := h
  exact z_zret C0 rfl g27 dX12_isKnown_85
def f_X12_dig_L4 (a0 : Nat) (μ4 : zM) : Nat → Int32 → Int32 → Option (Int32)
  | 0, _, _ => none
  | n + 1, y2, y3 =>
    if (256 : Int32) ≤ y3 then
      some y2
    else
      zbd (zbd (if y2 < 0 then
            zbd (f_X12_isKnown a0 y3 μ4) fun r24 =>
            if r24 = 0 then
              some false
            else
              some true
          else
            zbd (f_X12_bits y3) fun r20 =>
            zbd (f_X12_bits y2) fun r21 =>
            if r21 ≤ r20 then
              some false
            else
              zbd (f_X12_isKnown a0 y3 μ4) fun r26 =>
              if r26 = 0 then
                some false
              else
                some true) fun b28 =>
        if b28 = true then
          some y3
        else
          some y2) fun x30 =>
      zl (y3 + (1 : Int32)) fun x31 =>
      f_X12_dig_L4 a0 μ4 n x30 x31
def f_X12_dig (a0 : Nat) (μ : zM) : Option (Int32) :=
  zbd (f_X12_dig_L4 a0 μ zFU (-1 : Int32) (0 : Int32)) fun x32 =>
  some x32
set_option maxHeartbeats 4000000 in
set_option maxRecDepth 100000 in
theorem r_X12_dig_L4 {l : Launch} {g : zL} {p : Program} {e : Env} {s : State} {m : MethodId} {args : Array Value} {below : List Frame} {meth : Method} {c : Code} {Q : State → Prop} (C0 : zC p s m args meth c g cX12_dig yX12_dig 3 (some (.int))) (a0 : Nat) (μ4 : zM) (hU1 : zT zNN zσ1 a0 12) : ∀ (n : Nat) (y2 : Int32) (y3 : Int32) (x32 : Int32), f_X12_dig_L4 a0 μ4 n y2 y3 = some x32 → Z p l e (zrm 1 0 0) s m args below meth c g Q 3 zNN 0 0 zσ1 μ4 42 [(1, .int x32)] [] → Z p l e (zrm 1 0 0) s m args below meth c g Q 3 zNN 0 0 zσ1 μ4 4 [(0, .ref (zb g + a0)), (1, .int y2), (2, .int y3)] [] := by
  intro n
  induction n with
  | zero =>
    intro y2 y3 x32 h kx
    rw [f_X12_dig_L4] at h
    cases h
  | succ n ih =>
    intro y2 y3 x32 h kx
    rw [f_X12_dig_L4] at h
    refine z_iload_n C0 dX12_dig_4 rfl 2 rfl ?_
    refine z_sipush (v := (256 : Int32)) C0 dX12_dig_5 (by decide) ?_
    refine z_icmp_ge C0 42 dX12_dig_8 (by decide) (fun c5 => ?_) (fun c5 => ?_)
    · have h := zif_t c5 h
      refine z_sub (lo1 := [(1, .int y2)]) [1] rfl ?_
      obtain rfl := (Option.some.inj h)
      exact kx
    · have h := zif_f c5 h
      refine z_iload_n C0 dX12_dig_11 rfl 1 rfl ?_
      obtain ⟨x30, e_x30, h⟩ := zbd_of h
      refine z_join μ4 36 [(0, .ref (zb g + a0)), (1, .int x30), (2, .int y3)] [] ?_ (fun k_J29 => ?_)
      · obtain ⟨x31, e_x31, h⟩ := zl_of h
        refine z_iinc (lo1 := [(2, .int x31), (0, .ref (zb g + a0)), (1, .int x30)]) C0 dX12_dig_36 2 rfl (by decide) e_x31.symm (by decide) rfl ?_
        refine z_goto C0 4 dX12_dig_39 (by decide) ?_
        refine z_sub (lo1 := [(0, .ref (zb g + a0)), (1, .int x30), (2, .int x31)]) [1, 2, 0] rfl ?_
        exact ih _ _ _ h kx
      · have h := e_x30
        obtain ⟨b28, e_b28, h⟩ := zbd_of h
        refine z_joinb b28 μ4 34 36 [(0, .ref (zb g + a0)), (1, .int y2), (2, .int y3)] [] (fun z35 => ?_) (fun z35 => ?_) (fun k33 k34 => ?_)
        · have h := zif_t z35 h
          refine z_iload_n C0 dX12_dig_34 rfl 2 rfl ?_
          refine z_istore_n (lo1 := [(1, .int y3), (0, .ref (zb g + a0)), (2, .int y3)]) C0 dX12_dig_35 rfl (by decide) rfl ?_
          refine z_sub (lo1 := [(0, .ref (zb g + a0)), (1, .int y3), (2, .int y3)]) [1, 0, 2] rfl ?_
          obtain rfl := (Option.some.inj h)
          exact k_J29
        · have h := zif_f (fun q => Bool.noConfusion (z35.symm.trans q)) h
          obtain rfl := (Option.some.inj h)
          exact k_J29
        · have h := e_b28
          refine z_if_lt C0 26 dX12_dig_12 (by decide) (fun c17 => ?_) (fun c17 => ?_)
          · have h := zif_t c17 h
            refine z_aload_n C0 dX12_dig_26 rfl 0 rfl ?_
            refine z_iload_n C0 dX12_dig_27 rfl 2 rfl ?_
            obtain ⟨r24, e_r24, h⟩ := zbd_of h
            refine z_callV (As := [.int y3]) (rest := []) C0 rfl kc_X12_isKnown km_RX12_402 (r_X12_isKnown (l := l) (g := g) a0 y3 μ4 hU1 e_r24) hU1.1 hU1.2.2.1 rfl (by decide) rfl (Nat.le_of_ble_eq_true rfl) (Nat.le_of_ble_eq_true rfl) (Nat.le_of_ble_eq_true rfl) (Nat.le_of_ble_eq_true rfl) (Nat.le_refl _) rfl rfl dX12_dig_28 ?_
            refine z_if_eq C0 36 dX12_dig_31 (by decide) (fun c25 => ?_) (fun c25 => ?_)
            · have h := zif_t c25 h
              exact k34 (Option.some.inj h).symm
            · have h := zif_f c25 h
              exact k33 (Option.some.inj h).symm
          · have h := zif_f c17 h
            refine z_iload_n C0 dX12_dig_15 rfl 2 rfl ?_
            obtain ⟨r20, e_r20, h⟩ := zbd_of h
            refine z_callS (As := [.int y3]) (rest := []) C0 rfl kc_X12_bits km_RX12_393 (r_X12_bits (l := l) (g := g) (μ := μ4) y3 e_r20) rfl (Nat.le_of_ble_eq_true rfl) (Nat.le_of_ble_eq_true rfl) (Nat.le_of_ble_eq_true rfl) (Nat.le_of_ble_eq_true rfl) (Nat.le_refl _) rfl rfl dX12_dig_16 ?_
            refine z_iload_n C0 dX12_dig_19 rfl 1 rfl ?_
            obtain ⟨r21, e_r21, h⟩ := zbd_of h
            refine z_callS (As := [.int y2]) (rest := [.int r20]) C0 rfl kc_X12_bits km_RX12_393 (r_X12_bits (l := l) (g := g) (μ := μ4) y2 e_r21) rfl (Nat.le_of_ble_eq_true rfl) (Nat.le_of_ble_eq_true rfl) (Nat.le_of_ble_eq_true rfl) (Nat.le_of_ble_eq_true rfl) (Nat.le_refl _) rfl rfl dX12_dig_20 ?_
            refine z_icmp_ge C0 36 dX12_dig_23 (by decide) (fun c22 => ?_) (fun c22 => ?_)
            · have h := zif_t c22 h
              exact k34 (Option.some.inj h).symm
            · have h := zif_f c22 h
              refine z_aload_n C0 dX12_dig_26 rfl 0 rfl ?_
              refine z_iload_n C0 dX12_dig_27 rfl 2 rfl ?_
              obtain ⟨r26, e_r26, h⟩ := zbd_of h
              refine z_callV (As := [.int y3]) (rest := []) C0 rfl kc_X12_isKnown km_RX12_402 (r_X12_isKnown (l := l) (g := g) a0 y3 μ4 hU1 e_r26) hU1.1 hU1.2.2.1 rfl (by decide) rfl (Nat.le_of_ble_eq_true rfl) (Nat.le_of_ble_eq_true rfl) (Nat.le_of_ble_eq_true rfl) (Nat.le_of_ble_eq_true rfl) (Nat.le_refl _) rfl rfl dX12_dig_28 ?_
              refine z_if_eq C0 36 dX12_dig_31 (by decide) (fun c27 => ?_) (fun c27 => ?_)
              · have h := zif_t c27 h
                exact k34 (Option.some.inj h).symm
              · have h := zif_f c27 h
                exact k33 (Option.some.inj h).symm
set_option maxHeartbeats 4000000 in
set_option maxRecDepth 100000 in
theorem r_X12_dig {l : Launch} {g : zL} (a0 : Nat) (μ : zM) (hT0 : zT zNN zσ1 a0 12) {rv : Int32} (h : f_X12_dig a0 μ = some rv) : zMet l g yX12_dig cX12_dig 3 (some (.int)) 1 0 0 zNN zNN zσ1 zσ1 [.ref (zb g + a0)] μ (some (.int rv)) μ := by
  refine zMet.of (by decide +kernel) (Nat.le_of_ble_eq_true rfl) ?_
  intro p e s m args below meth c C0
  refine z_loc (lo1 := [(0, .ref (zb g + a0))]) rfl ?_
  unfold f_X12_dig at h
  refine z_iconst (v := (-1 : Int32)) C0 dX12_dig_0 (by decide) ?_
  refine z_istore_n (lo1 := [(1, .int (-1 : Int32)), (0, .ref (zb g + a0))]) C0 dX12_dig_1 rfl (by decide) rfl ?_
  refine z_iconst (v := (0 : Int32)) C0 dX12_dig_2 (by decide) ?_
  refine z_istore_n (lo1 := [(2, .int (0 : Int32)), (1, .int (-1 : Int32)), (0, .ref (zb g + a0))]) C0 dX12_dig_3 rfl (by decide) rfl ?_
  refine z_sub (lo1 := [(0, .ref (zb g + a0)), (1, .int (-1 : Int32)), (2, .int (0 : Int32))]) [2, 1, 0] rfl ?_
  obtain ⟨x32, e_x32, h⟩ := zbd_of h
  refine r_X12_dig_L4 C0 a0 μ hT0 zFU (-1 : Int32) (0 : Int32) x32 e_x32 ?_
  refine z_iload_n C0 dX12_dig_42 rfl 0 rfl ?_
  have h := Option.some.inj h
  obtain rfl := h
  exact z_iret C0 rfl dX12_dig_43
def f_X12_does_L164 (a0 : Nat) (r1 : Int32) : Nat → Int32 → zM → Option (zM)
  | 0, _, _ => none
  | n + 1, y21, μ22 =>
    if r1 ≤ y21 then
      some μ22
    else
      zbd (f_X12_hour a0 (1 : Int32) μ22) fun μ24 =>
      zl (y21 + (1 : Int32)) fun x25 =>
      f_X12_does_L164 a0 r1 n x25 μ24
def f_X12_does (a0 : Nat) (v1 : Int32) (μ : zM) : Option (zM) :=
  zbd (f_X12_deedOf a0 v1 (1 : Int32) μ) fun r1 =>
  zbd (f_X12_deedOf a0 v1 (0 : Int32) μ) fun r2 =>
  zbd (if r2 = (0 : Int32) then
      zbd (f_X12_deedOf a0 v1 (2 : Int32) μ) fun r4 =>
      zg (zin r1 5) <|
      zl (zup μ (a0 + 4) (r1.toNatClampNeg) r4) fun μ6 =>
      some μ6
    else
    if r2 = (1 : Int32) then
      zg (zin r1 5) <|
      zl (zup μ (a0 + 4) (r1.toNatClampNeg) (-1 : Int32)) fun μ8 =>
      some μ8
    else
    if r2 = (2 : Int32) then
      zl (zup μ a0 20 r1) fun μ9 =>
      zbd (f_X12_deedOf a0 v1 (2 : Int32) μ9) fun r10 =>
      zl (zup μ9 a0 21 r10) fun μ11 =>
      some μ11
    else
    if r2 = (3 : Int32) then
      zl (zup μ a0 20 (-1 : Int32)) fun μ12 =>
      zl (zup μ12 a0 21 (0 : Int32)) fun μ13 =>
      some μ13
    else
    if r2 = (4 : Int32) then
      zl (zup μ a0 18 (1 : Int32)) fun μ14 =>
      some μ14
    else
    if r2 = (5 : Int32) then
      zl (zup μ a0 18 (0 : Int32)) fun μ15 =>
      some μ15
    else
    if r2 = (6 : Int32) then
      zl (zup μ a0 19 (1 : Int32)) fun μ16 =>
      some μ16
    else
    if r2 = (7 : Int32) then
      zl (zup μ a0 19 (0 : Int32)) fun μ17 =>
      some μ17
    else
    if r2 = (8 : Int32) then
      zg (zin r1 16) <|
      zl (zup μ (a0 + 5) (r1.toNatClampNeg) (0 : Int32)) fun μ19 =>
      some μ19
    else
      zbd (f_X12_does_L164 a0 r1 zFU (0 : Int32) μ) fun μ26 =>
      some μ26) fun μ27 =>
  some μ27
set_option maxHeartbeats 4000000 in
set_option maxRecDepth 100000 in
theorem r_X12_does_L164 {l : Launch} {g : zL} {p : Program} {e : Env} {s : State} {m : MethodId} {args : Array Value} {below : List Frame} {meth : Method} {c : Code} {Q : State → Prop} (C0 : zC p s m args meth c g cX12_does yX12_does 4 none) (a0 : Nat) (r1 : Int32) (hU20 : zT zNN zσ1 a0 12) : ∀ (n : Nat) (y21 : Int32) (μ22 : zM) (μ26 : zM), f_X12_does_L164 a0 r1 n y21 μ22 = some μ26 → Z p l e (zrm 6 0 0) s m args below meth c g Q 4 zNN 0 0 zσ1 μ26 180 [] [] → Z p l e (zrm 6 0 0) s m args below meth c g Q 4 zNN 0 0 zσ1 μ22 164 [(0, .ref (zb g + a0)), (2, .int r1), (3, .int y21)] [] := by
  intro n
  induction n with
  | zero =>
    intro y21 μ22 μ26 h kx
    rw [f_X12_does_L164] at h
    cases h
  | succ n ih =>
    intro y21 μ22 μ26 h kx
    rw [f_X12_does_L164] at h
    refine z_iload_n C0 dX12_does_164 rfl 2 rfl ?_
    refine z_iload_n C0 dX12_does_165 rfl 1 rfl ?_
    refine z_icmp_ge C0 180 dX12_does_166 (by decide) (fun c23 => ?_) (fun c23 => ?_)
    · have h := zif_t c23 h
      refine z_sub (lo1 := []) [] rfl ?_
      obtain rfl := (Option.some.inj h)
      exact kx
    · have h := zif_f c23 h
      refine z_aload_n C0 dX12_does_169 rfl 0 rfl ?_
      refine z_iconst (v := (1 : Int32)) C0 dX12_does_170 (by decide) ?_
      obtain ⟨μ24, e_μ24, h⟩ := zbd_of h
      refine z_callV (As := [.int (1 : Int32)]) (rest := []) C0 rfl kc_X12_hour km_RX12_291 (r_X12_hour (l := l) (g := g) a0 (1 : Int32) μ22 hU20 e_μ24) hU20.1 hU20.2.2.1 rfl (by decide) rfl (Nat.le_of_ble_eq_true rfl) (Nat.le_of_ble_eq_true rfl) (Nat.le_of_ble_eq_true rfl) (Nat.le_of_ble_eq_true rfl) (Nat.le_refl _) rfl rfl dX12_does_171 ?_
      obtain ⟨x25, e_x25, h⟩ := zl_of h
      refine z_iinc (lo1 := [(3, .int x25), (0, .ref (zb g + a0)), (2, .int r1)]) C0 dX12_does_174 2 rfl (by decide) e_x25.symm (by decide) rfl ?_
      refine z_goto C0 164 dX12_does_177 (by decide) ?_
      refine z_sub (lo1 := [(0, .ref (zb g + a0)), (2, .int r1), (3, .int x25)]) [1, 2, 0] rfl ?_
      exact ih _ _ _ h kx
set_option maxHeartbeats 4000000 in
set_option maxRecDepth 100000 in
theorem r_X12_does {l : Launch} {g : zL} (a0 : Nat) (v1 : Int32) (μ : zM) (hT0 : zT zNN zσ1 a0 12) {μr : zM} (h : f_X12_does a0 v1 μ = some μr) : zMet l g yX12_does cX12_does 4 none 6 0 0 zNN zNN zσ1 zσ1 [.ref (zb g + a0), .int v1] μ none μr := by
  refine zMet.of (by decide +kernel) (Nat.le_of_ble_eq_true rfl) ?_
  intro p e s m args below meth c C0
  refine z_loc (lo1 := [(0, .ref (zb g + a0)), (1, .int v1)]) rfl ?_
  unfold f_X12_does at h
  refine z_aload_n C0 dX12_does_0 rfl 0 rfl ?_
  refine z_iload_n C0 dX12_does_1 rfl 1 rfl ?_
  refine z_iconst (v := (1 : Int32)) C0 dX12_does_2 (by decide) ?_
  obtain ⟨r1, e_r1, h⟩ := zbd_of h
  refine z_callV (As := [.int v1, .int (1 : Int32)]) (rest := []) C0 rfl kc_X12_deedOf km_RX12_215 (r_X12_deedOf (l := l) (g := g) a0 v1 (1 : Int32) μ hT0 e_r1) hT0.1 hT0.2.2.1 rfl (by decide) rfl (Nat.le_of_ble_eq_true rfl) (Nat.le_of_ble_eq_true rfl) (Nat.le_of_ble_eq_true rfl) (Nat.le_of_ble_eq_true rfl) (Nat.le_refl _) rfl rfl dX12_does_3 ?_
  refine z_istore_n (lo1 := [(2, .int r1), (0, .ref (zb g + a0)), (1, .int v1)]) C0 dX12_does_6 rfl (by decide) rfl ?_
  refine z_aload_n C0 dX12_does_7 rfl 1 rfl ?_
  refine z_iload_n C0 dX12_does_8 rfl 2 rfl ?_
  refine z_iconst (v := (0 : Int32)) C0 dX12_does_9 (by decide) ?_
  obtain ⟨r2, e_r2, h⟩ := zbd_of h
  refine z_callV (As := [.int v1, .int (0 : Int32)]) (rest := []) C0 rfl kc_X12_deedOf km_RX12_215 (r_X12_deedOf (l := l) (g := g) a0 v1 (0 : Int32) μ hT0 e_r2) hT0.1 hT0.2.2.1 rfl (by decide) rfl (Nat.le_of_ble_eq_true rfl) (Nat.le_of_ble_eq_true rfl) (Nat.le_of_ble_eq_true rfl) (Nat.le_of_ble_eq_true rfl) (Nat.le_refl _) rfl rfl dX12_does_10 ?_
  obtain ⟨μ27, e_μ27, h⟩ := zbd_of h
  refine z_join μ27 180 [] [] ?_ (fun k_J3 => ?_)
  · have h := Option.some.inj h
    obtain rfl := h
    exact z_vret C0 rfl dX12_does_180
  · have h := e_μ27
    by_cases c28 : r2 = (0 : Int32)
    · have h := zif_t c28 h
      refine z_tabK C0 (51) 64 dX12_does_13 c28 (by decide) (by decide) (by decide) (by decide) ?_
      refine z_aload_n C0 dX12_does_64 rfl 1 rfl ?_
      refine z_getr C0 hT0 kf_12_20 zr_12_23 zx_12 (zs_12_23 hT0).1 dX12_does_65 ?_
      refine z_iload_n C0 dX12_does_68 rfl 0 rfl ?_
      refine z_aload_n C0 dX12_does_69 rfl 1 rfl ?_
      refine z_iload_n C0 dX12_does_70 rfl 2 rfl ?_
      refine z_iconst (v := (2 : Int32)) C0 dX12_does_71 (by decide) ?_
      obtain ⟨r4, e_r4, h⟩ := zbd_of h
      refine z_callV (As := [.int v1, .int (2 : Int32)]) (rest := [.int r1, .ref (zb g + (a0 + 4))]) C0 rfl kc_X12_deedOf km_RX12_215 (r_X12_deedOf (l := l) (g := g) a0 v1 (2 : Int32) μ hT0 e_r4) hT0.1 hT0.2.2.1 rfl (by decide) rfl (Nat.le_of_ble_eq_true rfl) (Nat.le_of_ble_eq_true rfl) (Nat.le_of_ble_eq_true rfl) (Nat.le_of_ble_eq_true rfl) (Nat.le_refl _) rfl rfl dX12_does_72 ?_
      obtain ⟨g5, h⟩ := zg_of h
      obtain ⟨μ6, e_μ6, h⟩ := zl_of h
      refine z_iast C0 (zs_12_23 hT0).2 g5 rfl e_μ6 dX12_does_75 ?_
      refine z_goto C0 180 dX12_does_76 (by decide) ?_
      refine z_sub (lo1 := []) [] rfl ?_
      obtain rfl := (Option.some.inj h)
      exact k_J3
    · have h := zif_f c28 h
      by_cases c29 : r2 = (1 : Int32)
      · have h := zif_t c29 h
        refine z_tabK C0 (66) 79 dX12_does_13 c29 (by decide) (by decide) (by decide) (by decide) ?_
        refine z_aload_n C0 dX12_does_79 rfl 1 rfl ?_
        refine z_getr C0 hT0 kf_12_20 zr_12_23 zx_12 (zs_12_23 hT0).1 dX12_does_80 ?_
        refine z_iload_n C0 dX12_does_83 rfl 0 rfl ?_
        refine z_iconst (v := (-1 : Int32)) C0 dX12_does_84 (by decide) ?_
        obtain ⟨g7, h⟩ := zg_of h
        obtain ⟨μ8, e_μ8, h⟩ := zl_of h
        refine z_iast C0 (zs_12_23 hT0).2 g7 rfl e_μ8 dX12_does_85 ?_
        refine z_goto C0 180 dX12_does_86 (by decide) ?_
        refine z_sub (lo1 := []) [] rfl ?_
        obtain rfl := (Option.some.inj h)
        exact k_J3
      · have h := zif_f c29 h
        by_cases c30 : r2 = (2 : Int32)
        · have h := zif_t c30 h
          refine z_tabK C0 (76) 89 dX12_does_13 c30 (by decide) (by decide) (by decide) (by decide) ?_
          refine z_aload_n C0 dX12_does_89 rfl 1 rfl ?_
          refine z_iload_n C0 dX12_does_90 rfl 0 rfl ?_
          obtain ⟨μ9, e_μ9, h⟩ := zl_of h
          refine z_puti C0 hT0.1 hT0.2.2.1 kf_12_245 zp_12_20 zr_12_20 e_μ9 dX12_does_91 ?_
          refine z_aload_n C0 dX12_does_94 rfl 1 rfl ?_
          refine z_aload_n C0 dX12_does_95 rfl 1 rfl ?_
          refine z_iload_n C0 dX12_does_96 rfl 2 rfl ?_
          refine z_iconst (v := (2 : Int32)) C0 dX12_does_97 (by decide) ?_
          obtain ⟨r10, e_r10, h⟩ := zbd_of h
          refine z_callV (As := [.int v1, .int (2 : Int32)]) (rest := [.ref (zb g + a0)]) C0 rfl kc_X12_deedOf km_RX12_215 (r_X12_deedOf (l := l) (g := g) a0 v1 (2 : Int32) μ9 hT0 e_r10) hT0.1 hT0.2.2.1 rfl (by decide) rfl (Nat.le_of_ble_eq_true rfl) (Nat.le_of_ble_eq_true rfl) (Nat.le_of_ble_eq_true rfl) (Nat.le_of_ble_eq_true rfl) (Nat.le_refl _) rfl rfl dX12_does_98 ?_
          obtain ⟨μ11, e_μ11, h⟩ := zl_of h
          refine z_puti C0 hT0.1 hT0.2.2.1 kf_12_248 zp_12_21 zr_12_21 e_μ11 dX12_does_101 ?_
          refine z_goto C0 180 dX12_does_104 (by decide) ?_
          refine z_sub (lo1 := []) [] rfl ?_
          obtain rfl := (Option.some.inj h)
          exact k_J3
        · have h := zif_f c30 h
          by_cases c31 : r2 = (3 : Int32)
          · have h := zif_t c31 h
            refine z_tabK C0 (94) 107 dX12_does_13 c31 (by decide) (by decide) (by decide) (by decide) ?_
            refine z_aload_n C0 dX12_does_107 rfl 1 rfl ?_
            refine z_iconst (v := (-1 : Int32)) C0 dX12_does_108 (by decide) ?_
            obtain ⟨μ12, e_μ12, h⟩ := zl_of h
            refine z_puti C0 hT0.1 hT0.2.2.1 kf_12_245 zp_12_20 zr_12_20 e_μ12 dX12_does_109 ?_
            refine z_aload_n C0 dX12_does_112 rfl 1 rfl ?_
            refine z_iconst (v := (0 : Int32)) C0 dX12_does_113 (by decide) ?_
            obtain ⟨μ13, e_μ13, h⟩ := zl_of h
            refine z_puti C0 hT0.1 hT0.2.2.1 kf_12_248 zp_12_21 zr_12_21 e_μ13 dX12_does_114 ?_
            refine z_goto C0 180 dX12_does_117 (by decide) ?_
            refine z_sub (lo1 := []) [] rfl ?_
            obtain rfl := (Option.some.inj h)
            exact k_J3
          · have h := zif_f c31 h
            by_cases c32 : r2 = (4 : Int32)
            · have h := zif_t c32 h
              refine z_tabK C0 (107) 120 dX12_does_13 c32 (by decide) (by decide) (by decide) (by decide) ?_
              refine z_aload_n C0 dX12_does_120 rfl 1 rfl ?_
              refine z_iconst (v := (1 : Int32)) C0 dX12_does_121 (by decide) ?_
              obtain ⟨μ14, e_μ14, h⟩ := zl_of h
              refine z_putb C0 hT0.1 hT0.2.2.1 kf_12_239 zp_12_18 zr_12_18 (by decide) e_μ14 dX12_does_122 ?_
              refine z_goto C0 180 dX12_does_125 (by decide) ?_
              refine z_sub (lo1 := []) [] rfl ?_
              obtain rfl := (Option.some.inj h)
              exact k_J3
            · have h := zif_f c32 h
              by_cases c33 : r2 = (5 : Int32)
              · have h := zif_t c33 h
                refine z_tabK C0 (115) 128 dX12_does_13 c33 (by decide) (by decide) (by decide) (by decide) ?_
                refine z_aload_n C0 dX12_does_128 rfl 1 rfl ?_
                refine z_iconst (v := (0 : Int32)) C0 dX12_does_129 (by decide) ?_
                obtain ⟨μ15, e_μ15, h⟩ := zl_of h
                refine z_putb C0 hT0.1 hT0.2.2.1 kf_12_239 zp_12_18 zr_12_18 (by decide) e_μ15 dX12_does_130 ?_
                refine z_goto C0 180 dX12_does_133 (by decide) ?_
                refine z_sub (lo1 := []) [] rfl ?_
                obtain rfl := (Option.some.inj h)
                exact k_J3
              · have h := zif_f c33 h
                by_cases c34 : r2 = (6 : Int32)
                · have h := zif_t c34 h
                  refine z_tabK C0 (123) 136 dX12_does_13 c34 (by decide) (by decide) (by decide) (by decide) ?_
                  refine z_aload_n C0 dX12_does_136 rfl 1 rfl ?_
                  refine z_iconst (v := (1 : Int32)) C0 dX12_does_137 (by decide) ?_
                  obtain ⟨μ16, e_μ16, h⟩ := zl_of h
                  refine z_putb C0 hT0.1 hT0.2.2.1 kf_12_242 zp_12_19 zr_12_19 (by decide) e_μ16 dX12_does_138 ?_
                  refine z_goto C0 180 dX12_does_141 (by decide) ?_
                  refine z_sub (lo1 := []) [] rfl ?_
                  obtain rfl := (Option.some.inj h)
                  exact k_J3
                · have h := zif_f c34 h
                  by_cases c35 : r2 = (7 : Int32)
                  · have h := zif_t c35 h
                    refine z_tabK C0 (131) 144 dX12_does_13 c35 (by decide) (by decide) (by decide) (by decide) ?_
                    refine z_aload_n C0 dX12_does_144 rfl 1 rfl ?_
                    refine z_iconst (v := (0 : Int32)) C0 dX12_does_145 (by decide) ?_
                    obtain ⟨μ17, e_μ17, h⟩ := zl_of h
                    refine z_putb C0 hT0.1 hT0.2.2.1 kf_12_242 zp_12_19 zr_12_19 (by decide) e_μ17 dX12_does_146 ?_
                    refine z_goto C0 180 dX12_does_149 (by decide) ?_
                    refine z_sub (lo1 := []) [] rfl ?_
                    obtain rfl := (Option.some.inj h)
                    exact k_J3
                  · have h := zif_f c35 h
                    by_cases c36 : r2 = (8 : Int32)
                    · have h := zif_t c36 h
                      refine z_tabK C0 (139) 152 dX12_does_13 c36 (by decide) (by decide) (by decide) (by decide) ?_
                      refine z_aload_n C0 dX12_does_152 rfl 1 rfl ?_
                      refine z_getr C0 hT0 kf_12_23 zr_12_24 zx_12 (zs_12_24 hT0).1 dX12_does_153 ?_
                      refine z_iload_n C0 dX12_does_156 rfl 0 rfl ?_
                      refine z_iconst (v := (0 : Int32)) C0 dX12_does_157 (by decide) ?_
                      obtain ⟨g18, h⟩ := zg_of h
                      obtain ⟨μ19, e_μ19, h⟩ := zl_of h
                      refine z_iast C0 (zs_12_24 hT0).2 g18 rfl e_μ19 dX12_does_158 ?_
                      refine z_goto C0 180 dX12_does_159 (by decide) ?_
                      refine z_sub (lo1 := []) [] rfl ?_
                      obtain rfl := (Option.some.inj h)
                      exact k_J3
                    · have h := zif_f c36 h
                      refine z_join μ 162 [(2, .int r1), (0, .ref (zb g + a0)), (1, .int v1)] [] ?_ (fun k37 => ?_)
                      · refine z_iconst (v := (0 : Int32)) C0 dX12_does_162 (by decide) ?_
                        refine z_istore_n (lo1 := [(3, .int (0 : Int32)), (2, .int r1), (0, .ref (zb g + a0)), (1, .int v1)]) C0 dX12_does_163 rfl (by decide) rfl ?_
                        refine z_sub (lo1 := [(0, .ref (zb g + a0)), (2, .int r1), (3, .int (0 : Int32))]) [2, 1, 0] rfl ?_
                        obtain ⟨μ26, e_μ26, h⟩ := zbd_of h
                        refine r_X12_does_L164 C0 a0 r1 hT0 zFU (0 : Int32) μ μ26 e_μ26 ?_
                        obtain rfl := (Option.some.inj h)
                        exact k_J3
                      · have c28 : r2.toInt ≠ 0 := fun q => c28 (Int32.toInt_inj.mp (q.trans (by decide)))
                        have c29 : r2.toInt ≠ 1 := fun q => c29 (Int32.toInt_inj.mp (q.trans (by decide)))
                        have c30 : r2.toInt ≠ 2 := fun q => c30 (Int32.toInt_inj.mp (q.trans (by decide)))
                        have c31 : r2.toInt ≠ 3 := fun q => c31 (Int32.toInt_inj.mp (q.trans (by decide)))
                        have c32 : r2.toInt ≠ 4 := fun q => c32 (Int32.toInt_inj.mp (q.trans (by decide)))
                        have c33 : r2.toInt ≠ 5 := fun q => c33 (Int32.toInt_inj.mp (q.trans (by decide)))
                        have c34 : r2.toInt ≠ 6 := fun q => c34 (Int32.toInt_inj.mp (q.trans (by decide)))
                        have c35 : r2.toInt ≠ 7 := fun q => c35 (Int32.toInt_inj.mp (q.trans (by decide)))
                        have c36 : r2.toInt ≠ 8 := fun q => c36 (Int32.toInt_inj.mp (q.trans (by decide)))
                        exact z_tabOut C0 162 dX12_does_13 (by omega) (by decide) k37
def f_X12_drawn_L43 (a0 : Nat) (v3 : Int32) (v4 : Int32) : Nat → Int32 → zM → Option (zM)
  | 0, _, _ => none
  | n + 1, y9, μ10 =>
    if v3 ≤ y9 then
      some μ10
    else
      zbd2 (f_X12_below a0 (5 : Int32) μ10) fun r12 μ13 =>
      zl (zup μ13 a0 20 r12) fun μ14 =>
      zbd2 (if ¬ (μ14 a0 20) = (4 : Int32) then
          zbd2 (f_X12_below a0 (9 : Int32) μ14) fun r17 μ18 =>
          some ((r17 + (1 : Int32)), μ18)
        else
          some ((0 : Int32), μ14)) fun x19 μ20 =>
      zl (zup μ20 a0 21 x19) fun μ21 =>
      zl (if ¬ (μ21 a0 20) = (4 : Int32) then
          (μ21 a0 20)
        else
          (-1 : Int32)) fun x24 =>
      zl (zup μ21 a0 20 x24) fun μ25 =>
      zbd (f_X12_hour a0 (1 : Int32) μ25) fun μ26 =>
      zl (y9 + (1 : Int32)) fun x27 =>
      f_X12_drawn_L43 a0 v3 v4 n x27 μ26
def f_X12_drawn (a0 : Nat) (v1 : Int32) (v2 : Int32) (v3 : Int32) (v4 : Int32) (μ : zM) : Option (Int32 × zM) :=
  zbd2 (f_X12_isLake a0 v1 μ) fun r1 μ2 =>
  if (¬ (r1 = 0)) ∧ ((¬ ((f_X12_isIn v3 (1 : Int32) (40 : Int32)) = 0)) ∧ (¬ (f_X12_isIn v4 (0 : Int32) (4 : Int32)) = 0)) then
    zbd (f_X12_begins a0 μ2) fun μ6 =>
    zl (zup μ6 a0 37 v2) fun μ7 =>
    zbd (f_X12_drawn_L43 a0 v3 v4 zFU (0 : Int32) μ7) fun μ28 =>
    zl (if ¬ v4 = 0 then
        if ¬ v4 = (1 : Int32) then
          if ¬ v4 = (2 : Int32) then
            if ¬ v4 = (3 : Int32) then
              if (μ28 a0 17) = 0 then
                (0 : Int32)
              else
                (1 : Int32)
            else
              (μ28 a0 15)
          else
            (μ28 a0 16)
        else
          (μ28 a0 13)
      else
        (μ28 a0 12)) fun x45 =>
    some (x45, μ28)
  else
    some ((-2 : Int32), μ2)
set_option maxHeartbeats 4000000 in
set_option maxRecDepth 100000 in
theorem r_X12_drawn_L43 {l : Launch} {g : zL} {p : Program} {e : Env} {s : State} {m : MethodId} {args : Array Value} {below : List Frame} {meth : Method} {c : Code} {Q : State → Prop} (C0 : zC p s m args meth c g cX12_drawn yX12_drawn 6 (some (.int))) (a0 : Nat) (v3 : Int32) (v4 : Int32) (hU8 : zT zNN zσ1 a0 12) : ∀ (n : Nat) (y9 : Int32) (μ10 : zM) (μ28 : zM), f_X12_drawn_L43 a0 v3 v4 n y9 μ10 = some μ28 → Z p l e (zrm 6 0 0) s m args below meth c g Q 6 zNN 0 0 zσ1 μ28 113 [(0, .ref (zb g + a0)), (4, .int v4)] [] → Z p l e (zrm 6 0 0) s m args below meth c g Q 6 zNN 0 0 zσ1 μ10 43 [(0, .ref (zb g + a0)), (3, .int v3), (4, .int v4), (5, .int y9)] [] := by
  intro n
  induction n with
  | zero =>
    intro y9 μ10 μ28 h kx
    rw [f_X12_drawn_L43] at h
    cases h
  | succ n ih =>
    intro y9 μ10 μ28 h kx
    rw [f_X12_drawn_L43] at h
    refine z_iload C0 dX12_drawn_43 3 rfl ?_
    refine z_iload_n C0 dX12_drawn_45 rfl 1 rfl ?_
    refine z_icmp_ge C0 113 dX12_drawn_46 (by decide) (fun c11 => ?_) (fun c11 => ?_)
    · have h := zif_t c11 h
      refine z_sub (lo1 := [(0, .ref (zb g + a0)), (4, .int v4)]) [0, 2] rfl ?_
      obtain rfl := (Option.some.inj h)
      exact kx
    · have h := zif_f c11 h
      refine z_aload_n C0 dX12_drawn_49 rfl 0 rfl ?_
      refine z_aload_n C0 dX12_drawn_50 rfl 0 rfl ?_
      refine z_iconst (v := (5 : Int32)) C0 dX12_drawn_51 (by decide) ?_
      obtain ⟨r12, μ13, e_r12, h⟩ := zbd2_of h
      refine z_callV (As := [.int (5 : Int32)]) (rest := [.ref (zb g + a0)]) C0 rfl kc_X12_below km_RX12_426 (r_X12_below (l := l) (g := g) a0 (5 : Int32) μ10 hU8 e_r12) hU8.1 hU8.2.2.1 rfl (by decide) rfl (Nat.le_of_ble_eq_true rfl) (Nat.le_of_ble_eq_true rfl) (Nat.le_of_ble_eq_true rfl) (Nat.le_of_ble_eq_true rfl) (Nat.le_refl _) rfl rfl dX12_drawn_52 ?_
      obtain ⟨μ14, e_μ14, h⟩ := zl_of h
      refine z_puti C0 hU8.1 hU8.2.2.1 kf_12_245 zp_12_20 zr_12_20 e_μ14 dX12_drawn_55 ?_
      refine z_aload_n C0 dX12_drawn_58 rfl 0 rfl ?_
      refine z_aload_n C0 dX12_drawn_59 rfl 0 rfl ?_
      refine z_geti C0 hU8.1 hU8.2.2.1 kf_12_245 zr_12_20 dX12_drawn_60 ?_
      refine z_iconst (v := (4 : Int32)) C0 dX12_drawn_63 (by decide) ?_
      obtain ⟨x19, μ20, e_x19, h⟩ := zbd2_of h
      refine z_join μ20 79 [(0, .ref (zb g + a0)), (3, .int v3), (4, .int v4), (5, .int y9)] [.int x19, .ref (zb g + a0)] ?_ (fun k_J16 => ?_)
      · obtain ⟨μ21, e_μ21, h⟩ := zl_of h
        refine z_puti C0 hU8.1 hU8.2.2.1 kf_12_248 zp_12_21 zr_12_21 e_μ21 dX12_drawn_79 ?_
        refine z_aload_n C0 dX12_drawn_82 rfl 0 rfl ?_
        refine z_aload_n C0 dX12_drawn_83 rfl 0 rfl ?_
        refine z_geti C0 hU8.1 hU8.2.2.1 kf_12_245 zr_12_20 dX12_drawn_84 ?_
        refine z_iconst (v := (4 : Int32)) C0 dX12_drawn_87 (by decide) ?_
        obtain ⟨x24, e_x24, h⟩ := zl_of h
        refine z_join μ21 99 [(0, .ref (zb g + a0)), (3, .int v3), (4, .int v4), (5, .int y9)] [.int x24, .ref (zb g + a0)] ?_ (fun k_J23 => ?_)
        · obtain ⟨μ25, e_μ25, h⟩ := zl_of h
          refine z_puti C0 hU8.1 hU8.2.2.1 kf_12_245 zp_12_20 zr_12_20 e_μ25 dX12_drawn_99 ?_
          refine z_aload_n C0 dX12_drawn_102 rfl 0 rfl ?_
          refine z_iconst (v := (1 : Int32)) C0 dX12_drawn_103 (by decide) ?_
          obtain ⟨μ26, e_μ26, h⟩ := zbd_of h
          refine z_callV (As := [.int (1 : Int32)]) (rest := []) C0 rfl kc_X12_hour km_RX12_291 (r_X12_hour (l := l) (g := g) a0 (1 : Int32) μ25 hU8 e_μ26) hU8.1 hU8.2.2.1 rfl (by decide) rfl (Nat.le_of_ble_eq_true rfl) (Nat.le_of_ble_eq_true rfl) (Nat.le_of_ble_eq_true rfl) (Nat.le_of_ble_eq_true rfl) (Nat.le_refl _) rfl rfl dX12_drawn_104 ?_
          obtain ⟨x27, e_x27, h⟩ := zl_of h
          refine z_iinc (lo1 := [(5, .int x27), (0, .ref (zb g + a0)), (3, .int v3), (4, .int v4)]) C0 dX12_drawn_107 3 rfl (by decide) e_x27.symm (by decide) rfl ?_
          refine z_goto C0 43 dX12_drawn_110 (by decide) ?_
          refine z_sub (lo1 := [(0, .ref (zb g + a0)), (3, .int v3), (4, .int v4), (5, .int x27)]) [1, 2, 3, 0] rfl ?_
          exact ih _ _ _ h kx
        · have h := e_x24.symm
          refine z_icmp_ne C0 95 dX12_drawn_88 (by decide) (fun c22 => ?_) (fun c22 => ?_)
          · have h := zif_t c22 h
            refine z_aload_n C0 dX12_drawn_95 rfl 0 rfl ?_
            refine z_geti C0 hU8.1 hU8.2.2.1 kf_12_245 zr_12_20 dX12_drawn_96 ?_
            obtain rfl := h
            exact k_J23
          · have h := zif_f (fun q => q c22) h
            refine z_iconst (v := (-1 : Int32)) C0 dX12_drawn_91 (by decide) ?_
            refine z_goto C0 99 dX12_drawn_92 (by decide) ?_
            obtain rfl := h
            exact k_J23
      · have h := e_x19
        refine z_icmp_ne C0 71 dX12_drawn_64 (by decide) (fun c15 => ?_) (fun c15 => ?_)
        · have h := zif_t c15 h
          refine z_aload_n C0 dX12_drawn_71 rfl 0 rfl ?_
          refine z_bipush (v := (9 : Int32)) C0 dX12_drawn_72 (by decide) ?_
          obtain ⟨r17, μ18, e_r17, h⟩ := zbd2_of h
          refine z_callV (As := [.int (9 : Int32)]) (rest := [.ref (zb g + a0)]) C0 rfl kc_X12_below km_RX12_426 (r_X12_below (l := l) (g := g) a0 (9 : Int32) μ14 hU8 e_r17) hU8.1 hU8.2.2.1 rfl (by decide) rfl (Nat.le_of_ble_eq_true rfl) (Nat.le_of_ble_eq_true rfl) (Nat.le_of_ble_eq_true rfl) (Nat.le_of_ble_eq_true rfl) (Nat.le_refl _) rfl rfl dX12_drawn_74 ?_
          refine z_iconst (v := (1 : Int32)) C0 dX12_drawn_77 (by decide) ?_
          refine z_iadd C0 dX12_drawn_78 ?_
          obtain ⟨rfl, rfl⟩ := Prod.mk.inj (Option.some.inj h)
          exact k_J16
        · have h := zif_f (fun q => q c15) h
          refine z_iconst (v := (0 : Int32)) C0 dX12_drawn_67 (by decide) ?_
          refine z_goto C0 79 dX12_drawn_68 (by decide) ?_
          obtain ⟨rfl, rfl⟩ := Prod.mk.inj (Option.some.inj h)
          exact k_J16
set_option maxHeartbeats 4000000 in
set_option maxRecDepth 100000 in
theorem r_X12_drawn {l : Launch} {g : zL} (a0 : Nat) (v1 : Int32) (v2 : Int32) (v3 : Int32) (v4 : Int32) (μ : zM) (hT0 : zT zNN zσ1 a0 12) {rv : Int32} {μr : zM} (h : f_X12_drawn a0 v1 v2 v3 v4 μ = some (rv, μr)) : zMet l g yX12_drawn cX12_drawn 6 (some (.int)) 6 0 0 zNN zNN zσ1 zσ1 [.ref (zb g + a0), .int v1, .int v2, .int v3, .int v4] μ (some (.int rv)) μr := by
  refine zMet.of (by decide +kernel) (Nat.le_of_ble_eq_true rfl) ?_
  intro p e s m args below meth c C0
  refine z_loc (lo1 := [(0, .ref (zb g + a0)), (1, .int v1), (2, .int v2), (3, .int v3), (4, .int v4)]) rfl ?_
  unfold f_X12_drawn at h
  refine z_aload_n C0 dX12_drawn_0 rfl 0 rfl ?_
  refine z_iload_n C0 dX12_drawn_1 rfl 1 rfl ?_
  obtain ⟨r1, μ2, e_r1, h⟩ := zbd2_of h
  refine z_callV (As := [.int v1]) (rest := []) C0 rfl kc_X12_isLake km_RX12_186 (r_X12_isLake (l := l) (g := g) a0 v1 μ hT0 e_r1) hT0.1 hT0.2.2.1 rfl (by decide) rfl (Nat.le_of_ble_eq_true rfl) (Nat.le_of_ble_eq_true rfl) (Nat.le_of_ble_eq_true rfl) (Nat.le_of_ble_eq_true rfl) (Nat.le_refl _) rfl rfl dX12_drawn_2 ?_
  by_cases hc46 : (¬ (r1 = 0)) ∧ ((¬ ((f_X12_isIn v3 (1 : Int32) (40 : Int32)) = 0)) ∧ (¬ (f_X12_isIn v4 (0 : Int32) (4 : Int32)) = 0))
  · have h := zif_t hc46 h
    refine z_join μ2 31 [(0, .ref (zb g + a0)), (1, .int v1), (2, .int v2), (3, .int v3), (4, .int v4)] [] ?_ (fun k47 => ?_)
    · refine z_aload_n C0 dX12_drawn_31 rfl 0 rfl ?_
      obtain ⟨μ6, e_μ6, h⟩ := zbd_of h
      refine z_callV (As := []) (rest := []) C0 rfl kc_X12_begins km_RX12_295 (r_X12_begins (l := l) (g := g) a0 μ2 hT0 e_μ6) hT0.1 hT0.2.2.1 rfl (by decide) rfl (Nat.le_of_ble_eq_true rfl) (Nat.le_of_ble_eq_true rfl) (Nat.le_of_ble_eq_true rfl) (Nat.le_of_ble_eq_true rfl) (Nat.le_refl _) rfl rfl dX12_drawn_32 ?_
      refine z_aload_n C0 dX12_drawn_35 rfl 0 rfl ?_
      refine z_iload_n C0 dX12_drawn_36 rfl 2 rfl ?_
      obtain ⟨μ7, e_μ7, h⟩ := zl_of h
      refine z_puti C0 hT0.1 hT0.2.2.1 kf_12_422 zp_12_37 zr_12_37 e_μ7 dX12_drawn_37 ?_
      refine z_iconst (v := (0 : Int32)) C0 dX12_drawn_40 (by decide) ?_
      refine z_istore (lo1 := [(5, .int (0 : Int32)), (0, .ref (zb g + a0)), (1, .int v1), (2, .int v2), (3, .int v3), (4, .int v4)]) C0 dX12_drawn_41 (by decide) rfl ?_
      refine z_sub (lo1 := [(0, .ref (zb g + a0)), (3, .int v3), (4, .int v4), (5, .int (0 : Int32))]) [1, 4, 5, 0] rfl ?_
      obtain ⟨μ28, e_μ28, h⟩ := zbd_of h
      refine r_X12_drawn_L43 C0 a0 v3 v4 hT0 zFU (0 : Int32) μ7 μ28 e_μ28 ?_
      refine z_iload C0 dX12_drawn_113 1 rfl ?_
      obtain ⟨x45, e_x45, h⟩ := zl_of h
      refine z_join μ28 176 [] [.int x45] ?_ (fun k_J34 => ?_)
      · have h := Option.some.inj h
        obtain ⟨rfl, rfl⟩ := Prod.mk.inj h
        exact z_iret C0 rfl dX12_drawn_176
      · have h := e_x45.symm
        refine z_if_ne C0 125 dX12_drawn_115 (by decide) (fun c29 => ?_) (fun c29 => ?_)
        · have h := zif_t c29 h
          refine z_iload C0 dX12_drawn_125 1 rfl ?_
          refine z_iconst (v := (1 : Int32)) C0 dX12_drawn_127 (by decide) ?_
          refine z_icmp_ne C0 138 dX12_drawn_128 (by decide) (fun c35 => ?_) (fun c35 => ?_)
          · have h := zif_t c35 h
            refine z_iload C0 dX12_drawn_138 1 rfl ?_
            refine z_iconst (v := (2 : Int32)) C0 dX12_drawn_140 (by decide) ?_
            refine z_icmp_ne C0 151 dX12_drawn_141 (by decide) (fun c39 => ?_) (fun c39 => ?_)
            · have h := zif_t c39 h
              refine z_iload C0 dX12_drawn_151 1 rfl ?_
              refine z_iconst (v := (3 : Int32)) C0 dX12_drawn_153 (by decide) ?_
              refine z_icmp_ne C0 164 dX12_drawn_154 (by decide) (fun c42 => ?_) (fun c42 => ?_)
              · have h := zif_t c42 h
                refine z_aload_n C0 dX12_drawn_164 rfl 0 rfl ?_
                refine z_geti C0 hT0.1 hT0.2.2.1 kf_12_236 zr_12_17 dX12_drawn_165 ?_
                refine z_if_eq C0 175 dX12_drawn_168 (by decide) (fun c44 => ?_) (fun c44 => ?_)
                · have h := zif_t c44 h
                  refine z_iconst (v := (0 : Int32)) C0 dX12_drawn_175 (by decide) ?_
                  refine z_sub (lo1 := []) [] rfl ?_
                  obtain rfl := h
                  exact k_J34
                · have h := zif_f c44 h
                  refine z_iconst (v := (1 : Int32)) C0 dX12_drawn_171 (by decide) ?_
                  refine z_goto C0 176 dX12_drawn_172 (by decide) ?_
                  refine z_sub (lo1 := []) [] rfl ?_
                  obtain rfl := h
                  exact k_J34
              · have h := zif_f (fun q => q c42) h
                refine z_aload_n C0 dX12_drawn_157 rfl 0 rfl ?_
                refine z_geti C0 hT0.1 hT0.2.2.1 kf_12_227 zr_12_15 dX12_drawn_158 ?_
                refine z_goto C0 176 dX12_drawn_161 (by decide) ?_
                refine z_sub (lo1 := []) [] rfl ?_
                obtain rfl := h
                exact k_J34
            · have h := zif_f (fun q => q c39) h
              refine z_aload_n C0 dX12_drawn_144 rfl 0 rfl ?_
              refine z_geti C0 hT0.1 hT0.2.2.1 kf_12_233 zr_12_16 dX12_drawn_145 ?_
              refine z_goto C0 176 dX12_drawn_148 (by decide) ?_
              refine z_sub (lo1 := []) [] rfl ?_
              obtain rfl := h
              exact k_J34
          · have h := zif_f (fun q => q c35) h
            refine z_aload_n C0 dX12_drawn_131 rfl 0 rfl ?_
            refine z_geti C0 hT0.1 hT0.2.2.1 kf_12_221 zr_12_13 dX12_drawn_132 ?_
            refine z_goto C0 176 dX12_drawn_135 (by decide) ?_
            refine z_sub (lo1 := []) [] rfl ?_
            obtain rfl := h
            exact k_J34
        · have h := zif_f (fun q => q c29) h
          refine z_aload_n C0 dX12_drawn_118 rfl 0 rfl ?_
          refine z_geti C0 hT0.1 hT0.2.2.1 kf_12_218 zr_12_12 dX12_drawn_119 ?_
          refine z_goto C0 176 dX12_drawn_122 (by decide) ?_
          refine z_sub (lo1 := []) [] rfl ?_
          obtain rfl := h
          exact k_J34
    · refine z_if_eq C0 28 dX12_drawn_5 (by decide) (fun c3 => ?_) (fun c3 => ?_)
      · exact absurd hc46 (fun q => q.1 c3)
      · refine z_iload_n C0 dX12_drawn_8 rfl 3 rfl ?_
        refine z_iconst (v := (1 : Int32)) C0 dX12_drawn_9 (by decide) ?_
        refine z_bipush (v := (40 : Int32)) C0 dX12_drawn_10 (by decide) ?_
        refine z_callS (As := [.int v3, .int (1 : Int32), .int (40 : Int32)]) (rest := []) C0 rfl kc_X12_isIn km_RX12_109 (r_X12_isIn (l := l) (g := g) (μ := μ2) v3 (1 : Int32) (40 : Int32) rfl) rfl (Nat.le_of_ble_eq_true rfl) (Nat.le_of_ble_eq_true rfl) (Nat.le_of_ble_eq_true rfl) (Nat.le_of_ble_eq_true rfl) (Nat.le_refl _) rfl rfl dX12_drawn_12 ?_
        refine z_if_eq C0 28 dX12_drawn_15 (by decide) (fun c4 => ?_) (fun c4 => ?_)
        · exact absurd hc46 (fun q => (fun q => q.1 c4) q.2)
        · refine z_iload C0 dX12_drawn_18 4 rfl ?_
          refine z_iconst (v := (0 : Int32)) C0 dX12_drawn_20 (by decide) ?_
          refine z_iconst (v := (4 : Int32)) C0 dX12_drawn_21 (by decide) ?_
          refine z_callS (As := [.int v4, .int (0 : Int32), .int (4 : Int32)]) (rest := []) C0 rfl kc_X12_isIn km_RX12_109 (r_X12_isIn (l := l) (g := g) (μ := μ2) v4 (0 : Int32) (4 : Int32) rfl) rfl (Nat.le_of_ble_eq_true rfl) (Nat.le_of_ble_eq_true rfl) (Nat.le_of_ble_eq_true rfl) (Nat.le_of_ble_eq_true rfl) (Nat.le_refl _) rfl rfl dX12_drawn_22 ?_
          refine z_if_ne C0 31 dX12_drawn_25 (by decide) (fun c5 => ?_) (fun c5 => ?_)
          · exact k47
          · exact absurd hc46 (fun q => (fun q => (fun q => q c5) q.2) q.2)
  · have h := zif_f hc46 h
    refine z_join μ2 28 [(0, .ref (zb g + a0)), (1, .int v1), (2, .int v2), (3, .int v3), (4, .int v4)] [] ?_ (fun k48 => ?_)
    · refine z_bipush (v := (-2 : Int32)) C0 dX12_drawn_28 (by decide) ?_
      have h := Option.some.inj h
      obtain ⟨rfl, rfl⟩ := Prod.mk.inj h
      exact z_iret C0 rfl dX12_drawn_30
    · refine z_if_eq C0 28 dX12_drawn_5 (by decide) (fun c3 => ?_) (fun c3 => ?_)
      · exact k48
      · refine z_iload_n C0 dX12_drawn_8 rfl 3 rfl ?_
        refine z_iconst (v := (1 : Int32)) C0 dX12_drawn_9 (by decide) ?_
        refine z_bipush (v := (40 : Int32)) C0 dX12_drawn_10 (by decide) ?_
        refine z_callS (As := [.int v3, .int (1 : Int32), .int (40 : Int32)]) (rest := []) C0 rfl kc_X12_isIn km_RX12_109 (r_X12_isIn (l := l) (g := g) (μ := μ2) v3 (1 : Int32) (40 : Int32) rfl) rfl (Nat.le_of_ble_eq_true rfl) (Nat.le_of_ble_eq_true rfl) (Nat.le_of_ble_eq_true rfl) (Nat.le_of_ble_eq_true rfl) (Nat.le_refl _) rfl rfl dX12_drawn_12 ?_
        refine z_if_eq C0 28 dX12_drawn_15 (by decide) (fun c4 => ?_) (fun c4 => ?_)
        · exact k48
        · refine z_iload C0 dX12_drawn_18 4 rfl ?_
          refine z_iconst (v := (0 : Int32)) C0 dX12_drawn_20 (by decide) ?_
          refine z_iconst (v := (4 : Int32)) C0 dX12_drawn_21 (by decide) ?_
          refine z_callS (As := [.int v4, .int (0 : Int32), .int (4 : Int32)]) (rest := []) C0 rfl kc_X12_isIn km_RX12_109 (r_X12_isIn (l := l) (g := g) (μ := μ2) v4 (0 : Int32) (4 : Int32) rfl) rfl (Nat.le_of_ble_eq_true rfl) (Nat.le_of_ble_eq_true rfl) (Nat.le_of_ble_eq_true rfl) (Nat.le_of_ble_eq_true rfl) (Nat.le_refl _) rfl rfl dX12_drawn_22 ?_
          refine z_if_ne C0 31 dX12_drawn_25 (by decide) (fun c5 => ?_) (fun c5 => ?_)
          · exact absurd ⟨c3, ⟨c4, c5⟩⟩ hc46
          · exact k48
def f_X12_runs_L4 (a0 : Nat) (v1 : Int32) : Nat → zM → Option (zM)
  | 0, _ => none
  | n + 1, μ3 =>
    zbd (if v1 ≤ (μ3 a0 22) then
        some false
      else
        zbd (f_X12_deeds a0 μ3) fun r6 =>
        if r6 ≤ (μ3 a0 22) then
          some false
        else
          zbd (f_X12_can a0 (μ3 a0 22) μ3) fun r9 =>
          if r9 = 0 then
            some false
          else
            some true) fun b11 =>
    if b11 = true then
      zbd (f_X12_does a0 (μ3 a0 22) μ3) fun μ12 =>
      zl (zup μ12 a0 22 ((μ12 a0 22) + (1 : Int32))) fun μ13 =>
      f_X12_runs_L4 a0 v1 n μ13
    else
      some μ3
def f_X12_runs (a0 : Nat) (v1 : Int32) (μ : zM) : Option (zM) :=
  zbd (f_X12_begins a0 μ) fun μ1 =>
  zbd (f_X12_runs_L4 a0 v1 zFU μ1) fun μ14 =>
  some μ14
set_option maxHeartbeats 4000000 in
set_option maxRecDepth 100000 in
theorem r_X12_runs_L4 {l : Launch} {g : zL} {p : Program} {e : Env} {s : State} {m : MethodId} {args : Array Value} {below : List Frame} {meth : Method} {c : Code} {Q : State → Prop} (C0 : zC p s m args meth c g cX12_runs yX12_runs 2 none) (a0 : Nat) (v1 : Int32) (hU2 : zT zNN zσ1 a0 12) : ∀ (n : Nat) (μ3 : zM) (μ14 : zM), f_X12_runs_L4 a0 v1 n μ3 = some μ14 → Z p l e (zrm 7 0 0) s m args below meth c g Q 2 zNN 0 0 zσ1 μ14 55 [] [] → Z p l e (zrm 7 0 0) s m args below meth c g Q 2 zNN 0 0 zσ1 μ3 4 [(0, .ref (zb g + a0)), (1, .int v1)] [] := by
  intro n
  induction n with
  | zero =>
    intro μ3 μ14 h kx
    rw [f_X12_runs_L4] at h
    cases h
  | succ n ih =>
    intro μ3 μ14 h kx
    rw [f_X12_runs_L4] at h
    refine z_aload_n C0 dX12_runs_4 rfl 0 rfl ?_
    refine z_geti C0 hU2.1 hU2.2.2.1 kf_12_251 zr_12_22 dX12_runs_5 ?_
    refine z_iload_n C0 dX12_runs_8 rfl 1 rfl ?_
    obtain ⟨b11, e_b11, h⟩ := zbd_of h
    refine z_joinb b11 μ3 34 55 [(0, .ref (zb g + a0)), (1, .int v1)] [] (fun z17 => ?_) (fun z17 => ?_) (fun k15 k16 => ?_)
    · have h := zif_t z17 h
      refine z_aload_n C0 dX12_runs_34 rfl 0 rfl ?_
      refine z_aload_n C0 dX12_runs_35 rfl 0 rfl ?_
      refine z_geti C0 hU2.1 hU2.2.2.1 kf_12_251 zr_12_22 dX12_runs_36 ?_
      obtain ⟨μ12, e_μ12, h⟩ := zbd_of h
      refine z_callV (As := [.int (μ3 a0 22)]) (rest := []) C0 rfl kc_X12_does km_RX12_301 (r_X12_does (l := l) (g := g) a0 (μ3 a0 22) μ3 hU2 e_μ12) hU2.1 hU2.2.2.1 rfl (by decide) rfl (Nat.le_of_ble_eq_true rfl) (Nat.le_of_ble_eq_true rfl) (Nat.le_of_ble_eq_true rfl) (Nat.le_of_ble_eq_true rfl) (Nat.le_refl _) rfl rfl dX12_runs_39 ?_
      refine z_aload_n C0 dX12_runs_42 rfl 0 rfl ?_
      refine z_dup C0 dX12_runs_43 rfl ?_
      refine z_geti C0 hU2.1 hU2.2.2.1 kf_12_251 zr_12_22 dX12_runs_44 ?_
      refine z_iconst (v := (1 : Int32)) C0 dX12_runs_47 (by decide) ?_
      refine z_iadd C0 dX12_runs_48 ?_
      obtain ⟨μ13, e_μ13, h⟩ := zl_of h
      refine z_puti C0 hU2.1 hU2.2.2.1 kf_12_251 zp_12_22 zr_12_22 e_μ13 dX12_runs_49 ?_
      refine z_goto C0 4 dX12_runs_52 (by decide) ?_
      exact ih _ _ h kx
    · have h := zif_f (fun q => Bool.noConfusion (z17.symm.trans q)) h
      refine z_sub (lo1 := []) [] rfl ?_
      obtain rfl := (Option.some.inj h)
      exact kx
    · have h := e_b11
      refine z_icmp_ge C0 55 dX12_runs_9 (by decide) (fun c4 => ?_) (fun c4 => ?_)
      · have h := zif_t c4 h
        exact k16 (Option.some.inj h).symm
      · have h := zif_f c4 h
        refine z_aload_n C0 dX12_runs_12 rfl 0 rfl ?_
        refine z_geti C0 hU2.1 hU2.2.2.1 kf_12_251 zr_12_22 dX12_runs_13 ?_
        refine z_aload_n C0 dX12_runs_16 rfl 0 rfl ?_
        obtain ⟨r6, e_r6, h⟩ := zbd_of h
        refine z_callV (As := []) (rest := [.int (μ3 a0 22)]) C0 rfl kc_X12_deeds km_RX12_212 (r_X12_deeds (l := l) (g := g) a0 μ3 hU2 e_r6) hU2.1 hU2.2.2.1 rfl (by decide) rfl (Nat.le_of_ble_eq_true rfl) (Nat.le_of_ble_eq_true rfl) (Nat.le_of_ble_eq_true rfl) (Nat.le_of_ble_eq_true rfl) (Nat.le_refl _) rfl rfl dX12_runs_17 ?_
        refine z_icmp_ge C0 55 dX12_runs_20 (by decide) (fun c7 => ?_) (fun c7 => ?_)
        · have h := zif_t c7 h
          exact k16 (Option.some.inj h).symm
        · have h := zif_f c7 h
          refine z_aload_n C0 dX12_runs_23 rfl 0 rfl ?_
          refine z_aload_n C0 dX12_runs_24 rfl 0 rfl ?_
          refine z_geti C0 hU2.1 hU2.2.2.1 kf_12_251 zr_12_22 dX12_runs_25 ?_
          obtain ⟨r9, e_r9, h⟩ := zbd_of h
          refine z_callV (As := [.int (μ3 a0 22)]) (rest := []) C0 rfl kc_X12_can km_RX12_298 (r_X12_can (l := l) (g := g) a0 (μ3 a0 22) μ3 hU2 e_r9) hU2.1 hU2.2.2.1 rfl (by decide) rfl (Nat.le_of_ble_eq_true rfl) (Nat.le_of_ble_eq_true rfl) (Nat.le_of_ble_eq_true rfl) (Nat.le_of_ble_eq_true rfl) (Nat.le_refl _) rfl rfl dX12_runs_28 ?_
          refine z_if_eq C0 55 dX12_runs_31 (by decide) (fun c10 => ?_) (fun c10 => ?_)
          · have h := zif_t c10 h
            exact k16 (Option.some.inj h).symm
          · have h := zif_f c10 h
            exact k15 (Option.some.inj h).symm
set_option maxHeartbeats 4000000 in
set_option maxRecDepth 100000 in
theorem r_X12_runs {l : Launch} {g : zL} (a0 : Nat) (v1 : Int32) (μ : zM) (hT0 : zT zNN zσ1 a0 12) {μr : zM} (h : f_X12_runs a0 v1 μ = some μr) : zMet l g yX12_runs cX12_runs 2 none 7 0 0 zNN zNN zσ1 zσ1 [.ref (zb g + a0), .int v1] μ none μr := by
  refine zMet.of (by decide +kernel) (Nat.le_of_ble_eq_true rfl) ?_
  intro p e s m args below meth c C0
  refine z_loc (lo1 := [(0, .ref (zb g + a0)), (1, .int v1)]) rfl ?_
  unfold f_X12_runs at h
  refine z_aload_n C0 dX12_runs_0 rfl 0 rfl ?_
  obtain ⟨μ1, e_μ1, h⟩ := zbd_of h
  refine z_callV (As := []) (rest := []) C0 rfl kc_X12_begins km_RX12_295 (r_X12_begins (l := l) (g := g) a0 μ hT0 e_μ1) hT0.1 hT0.2.2.1 rfl (by decide) rfl (Nat.le_of_ble_eq_true rfl) (Nat.le_of_ble_eq_true rfl) (Nat.le_of_ble_eq_true rfl) (Nat.le_of_ble_eq_true rfl) (Nat.le_refl _) rfl rfl dX12_runs_1 ?_
  obtain ⟨μ14, e_μ14, h⟩ := zbd_of h
  refine r_X12_runs_L4 C0 a0 v1 hT0 zFU μ1 μ14 e_μ14 ?_
  have h := Option.some.inj h
  obtain rfl := h
  exact z_vret C0 rfl dX12_runs_55
def f_X12_isState (a0 : Nat) (v1 : Int32) (v2 : Int32) (v3 : Int32) (μ : zM) : Option (Int32 × zM) :=
  zbd2 (f_X12_areTold a0 v1 v2 μ) fun r1 μ2 =>
  if (¬ (r1 = 0)) ∧ (0 ≤ v3) then
    zbd (f_X12_runs a0 v3 μ2) fun μ5 =>
    zl (if ¬ (μ5 a0 22) = v3 then
        (0 : Int32)
      else
        (1 : Int32)) fun x8 =>
    some (x8, μ5)
  else
    some ((0 : Int32), μ2)
set_option maxHeartbeats 4000000 in
set_option maxRecDepth 100000 in
theorem r_X12_isState {l : Launch} {g : zL} (a0 : Nat) (v1 : Int32) (v2 : Int32) (v3 : Int32) (μ : zM) (hT0 : zT zNN zσ1 a0 12) {rv : Int32} {μr : zM} (h : f_X12_isState a0 v1 v2 v3 μ = some (rv, μr)) : zMet l g yX12_isState cX12_isState 4 (some (.boolean)) 8 0 0 zNN zNN zσ1 zσ1 [.ref (zb g + a0), .int v1, .int v2, .int v3] μ (some (.int rv)) μr := by
  refine zMet.of (by decide +kernel) (Nat.le_of_ble_eq_true rfl) ?_
  intro p e s m args below meth c C0
  refine z_loc (lo1 := [(0, .ref (zb g + a0)), (1, .int v1), (2, .int v2), (3, .int v3)]) rfl ?_
  unfold f_X12_isState at h
  refine z_aload_n C0 dX12_isState_0 rfl 0 rfl ?_
  refine z_iload_n C0 dX12_isState_1 rfl 1 rfl ?_
  refine z_iload_n C0 dX12_isState_2 rfl 2 rfl ?_
  obtain ⟨r1, μ2, e_r1, h⟩ := zbd2_of h
  refine z_callV (As := [.int v1, .int v2]) (rest := []) C0 rfl kc_X12_areTold km_RX12_304 (r_X12_areTold (l := l) (g := g) a0 v1 v2 μ hT0 e_r1) hT0.1 hT0.2.2.1 rfl (by decide) rfl (Nat.le_of_ble_eq_true rfl) (Nat.le_of_ble_eq_true rfl) (Nat.le_of_ble_eq_true rfl) (Nat.le_of_ble_eq_true rfl) (Nat.le_refl _) rfl rfl dX12_isState_3 ?_
  by_cases hc9 : (¬ (r1 = 0)) ∧ (0 ≤ v3)
  · have h := zif_t hc9 h
    refine z_join μ2 15 [(0, .ref (zb g + a0)), (1, .int v1), (2, .int v2), (3, .int v3)] [] ?_ (fun k10 => ?_)
    · refine z_aload_n C0 dX12_isState_15 rfl 0 rfl ?_
      refine z_iload_n C0 dX12_isState_16 rfl 3 rfl ?_
      obtain ⟨μ5, e_μ5, h⟩ := zbd_of h
      refine z_callV (As := [.int v3]) (rest := []) C0 rfl kc_X12_runs km_RX12_307 (r_X12_runs (l := l) (g := g) a0 v3 μ2 hT0 e_μ5) hT0.1 hT0.2.2.1 rfl (by decide) rfl (Nat.le_of_ble_eq_true rfl) (Nat.le_of_ble_eq_true rfl) (Nat.le_of_ble_eq_true rfl) (Nat.le_of_ble_eq_true rfl) (Nat.le_refl _) rfl rfl dX12_isState_17 ?_
      refine z_aload_n C0 dX12_isState_20 rfl 0 rfl ?_
      refine z_geti C0 hT0.1 hT0.2.2.1 kf_12_251 zr_12_22 dX12_isState_21 ?_
      refine z_iload_n C0 dX12_isState_24 rfl 3 rfl ?_
      obtain ⟨x8, e_x8, h⟩ := zl_of h
      refine z_join μ5 33 [] [.int x8] ?_ (fun k_J7 => ?_)
      · have h := Option.some.inj h
        obtain ⟨rfl, rfl⟩ := Prod.mk.inj h
        exact z_zret C0 rfl (by rw [e_x8]; repeat' split <;> rfl) dX12_isState_33
      · have h := e_x8.symm
        refine z_icmp_ne C0 32 dX12_isState_25 (by decide) (fun c6 => ?_) (fun c6 => ?_)
        · have h := zif_t c6 h
          refine z_iconst (v := (0 : Int32)) C0 dX12_isState_32 (by decide) ?_
          refine z_sub (lo1 := []) [] rfl ?_
          obtain rfl := h
          exact k_J7
        · have h := zif_f (fun q => q c6) h
          refine z_iconst (v := (1 : Int32)) C0 dX12_isState_28 (by decide) ?_
          refine z_goto C0 33 dX12_isState_29 (by decide) ?_
          refine z_sub (lo1 := []) [] rfl ?_
          obtain rfl := h
          exact k_J7
    · refine z_if_eq C0 13 dX12_isState_6 (by decide) (fun c3 => ?_) (fun c3 => ?_)
      · exact absurd hc9 (fun q => q.1 c3)
      · refine z_iload_n C0 dX12_isState_9 rfl 3 rfl ?_
        refine z_if_ge C0 15 dX12_isState_10 (by decide) (fun c4 => ?_) (fun c4 => ?_)
        · exact k10
        · exact absurd hc9 (fun q => c4 q.2)
  · have h := zif_f hc9 h
    refine z_join μ2 13 [(0, .ref (zb g + a0)), (1, .int v1), (2, .int v2), (3, .int v3)] [] ?_ (fun k11 => ?_)
    · refine z_iconst (v := (0 : Int32)) C0 dX12_isState_13 (by decide) ?_
      have h := Option.some.inj h
      obtain ⟨rfl, rfl⟩ := Prod.mk.inj h
      exact z_zret C0 rfl (by decide) dX12_isState_14
    · refine z_if_eq C0 13 dX12_isState_6 (by decide) (fun c3 => ?_) (fun c3 => ?_)
      · exact k11
      · refine z_iload_n C0 dX12_isState_9 rfl 3 rfl ?_
        refine z_if_ge C0 15 dX12_isState_10 (by decide) (fun c4 => ?_) (fun c4 => ?_)
        · exact absurd ⟨c3, c4⟩ hc9
        · exact k11
def f_X12_drift (a0 : Nat) (v1 : Int32) (v2 : Int32) (v3 : Int32) (v4 : Int32) (μ : zM) : Option (Int32 × zM) :=
  zbd2 (f_X12_isState a0 v1 v2 v3 μ) fun r1 μ2 =>
  zbd (if (¬ (r1 = 0)) ∧ (¬ ((f_X12_isIn v4 (0 : Int32) (1 : Int32)) = 0)) then
      zbd (f_X12_driftOf a0 v4 μ2) fun r6 =>
      some r6
    else
      some (-2 : Int32)) fun x7 =>
  some (x7, μ2)
set_option maxHeartbeats 4000000 in
set_option maxRecDepth 100000 in
theorem r_X12_drift {l : Launch} {g : zL} (a0 : Nat) (v1 : Int32) (v2 : Int32) (v3 : Int32) (v4 : Int32) (μ : zM) (hT0 : zT zNN zσ1 a0 12) {rv : Int32} {μr : zM} (h : f_X12_drift a0 v1 v2 v3 v4 μ = some (rv, μr)) : zMet l g yX12_drift cX12_drift 5 (some (.int)) 9 0 0 zNN zNN zσ1 zσ1 [.ref (zb g + a0), .int v1, .int v2, .int v3, .int v4] μ (some (.int rv)) μr := by
  refine zMet.of (by decide +kernel) (Nat.le_of_ble_eq_true rfl) ?_
  intro p e s m args below meth c C0
  refine z_loc (lo1 := [(0, .ref (zb g + a0)), (1, .int v1), (2, .int v2), (3, .int v3), (4, .int v4)]) rfl ?_
  unfold f_X12_drift at h
  refine z_aload_n C0 dX12_drift_0 rfl 0 rfl ?_
  refine z_iload_n C0 dX12_drift_1 rfl 1 rfl ?_
  refine z_iload_n C0 dX12_drift_2 rfl 2 rfl ?_
  refine z_iload_n C0 dX12_drift_3 rfl 3 rfl ?_
  obtain ⟨r1, μ2, e_r1, h⟩ := zbd2_of h
  refine z_callV (As := [.int v1, .int v2, .int v3]) (rest := []) C0 rfl kc_X12_isState km_RX12_310 (r_X12_isState (l := l) (g := g) a0 v1 v2 v3 μ hT0 e_r1) hT0.1 hT0.2.2.1 rfl (by decide) rfl (Nat.le_of_ble_eq_true rfl) (Nat.le_of_ble_eq_true rfl) (Nat.le_of_ble_eq_true rfl) (Nat.le_of_ble_eq_true rfl) (Nat.le_refl _) rfl rfl dX12_drift_4 ?_
  obtain ⟨x7, e_x7, h⟩ := zbd_of h
  refine z_join μ2 31 [] [.int x7] ?_ (fun k_J5 => ?_)
  · have h := Option.some.inj h
    obtain ⟨rfl, rfl⟩ := Prod.mk.inj h
    exact z_iret C0 rfl dX12_drift_31
  · have h := e_x7
    by_cases hc8 : (¬ (r1 = 0)) ∧ (¬ ((f_X12_isIn v4 (0 : Int32) (1 : Int32)) = 0))
    · have h := zif_t hc8 h
      refine z_join μ2 20 [(0, .ref (zb g + a0)), (1, .int v1), (2, .int v2), (3, .int v3), (4, .int v4)] [] ?_ (fun k9 => ?_)
      · refine z_aload_n C0 dX12_drift_20 rfl 0 rfl ?_
        refine z_iload C0 dX12_drift_21 4 rfl ?_
        obtain ⟨r6, e_r6, h⟩ := zbd_of h
        refine z_callV (As := [.int v4]) (rest := []) C0 rfl kc_X12_driftOf km_RX12_276 (r_X12_driftOf (l := l) (g := g) a0 v4 μ2 hT0 e_r6) hT0.1 hT0.2.2.1 rfl (by decide) rfl (Nat.le_of_ble_eq_true rfl) (Nat.le_of_ble_eq_true rfl) (Nat.le_of_ble_eq_true rfl) (Nat.le_of_ble_eq_true rfl) (Nat.le_refl _) rfl rfl dX12_drift_23 ?_
        refine z_goto C0 31 dX12_drift_26 (by decide) ?_
        refine z_sub (lo1 := []) [] rfl ?_
        obtain rfl := (Option.some.inj h)
        exact k_J5
      · refine z_if_eq C0 29 dX12_drift_7 (by decide) (fun c3 => ?_) (fun c3 => ?_)
        · exact absurd hc8 (fun q => q.1 c3)
        · refine z_iload C0 dX12_drift_10 4 rfl ?_
          refine z_iconst (v := (0 : Int32)) C0 dX12_drift_12 (by decide) ?_
          refine z_iconst (v := (1 : Int32)) C0 dX12_drift_13 (by decide) ?_
          refine z_callS (As := [.int v4, .int (0 : Int32), .int (1 : Int32)]) (rest := []) C0 rfl kc_X12_isIn km_RX12_109 (r_X12_isIn (l := l) (g := g) (μ := μ2) v4 (0 : Int32) (1 : Int32) rfl) rfl (Nat.le_of_ble_eq_true rfl) (Nat.le_of_ble_eq_true rfl) (Nat.le_of_ble_eq_true rfl) (Nat.le_of_ble_eq_true rfl) (Nat.le_refl _) rfl rfl dX12_drift_14 ?_
          refine z_if_eq C0 29 dX12_drift_17 (by decide) (fun c4 => ?_) (fun c4 => ?_)
          · exact absurd hc8 (fun q => (fun q => q c4) q.2)
          · exact k9
    · have h := zif_f hc8 h
      refine z_join μ2 29 [(0, .ref (zb g + a0)), (1, .int v1), (2, .int v2), (3, .int v3), (4, .int v4)] [] ?_ (fun k10 => ?_)
      · refine z_bipush (v := (-2 : Int32)) C0 dX12_drift_29 (by decide) ?_
        refine z_sub (lo1 := []) [] rfl ?_
        obtain rfl := (Option.some.inj h)
        exact k_J5
      · refine z_if_eq C0 29 dX12_drift_7 (by decide) (fun c3 => ?_) (fun c3 => ?_)
        · exact k10
        · refine z_iload C0 dX12_drift_10 4 rfl ?_
          refine z_iconst (v := (0 : Int32)) C0 dX12_drift_12 (by decide) ?_
          refine z_iconst (v := (1 : Int32)) C0 dX12_drift_13 (by decide) ?_
          refine z_callS (As := [.int v4, .int (0 : Int32), .int (1 : Int32)]) (rest := []) C0 rfl kc_X12_isIn km_RX12_109 (r_X12_isIn (l := l) (g := g) (μ := μ2) v4 (0 : Int32) (1 : Int32) rfl) rfl (Nat.le_of_ble_eq_true rfl) (Nat.le_of_ble_eq_true rfl) (Nat.le_of_ble_eq_true rfl) (Nat.le_of_ble_eq_true rfl) (Nat.le_refl _) rfl rfl dX12_drift_14 ?_
          refine z_if_eq C0 29 dX12_drift_17 (by decide) (fun c4 => ?_) (fun c4 => ?_)
          · exact k10
          · exact absurd ⟨c3, c4⟩ hc8
def f_X12_end (a0 : Nat) (v1 : Int32) (μ : zM) : Int32 × zM :=
  if (¬ (v1 < 0)) ∧ (v1 ≤ (μ (a0 + 1) 5)) then
    zl (zup μ (a0 + 1) 5 v1) fun μ3 =>
    (v1, μ3)
  else
    ((-1 : Int32), μ)
set_option maxHeartbeats 4000000 in
set_option maxRecDepth 100000 in
theorem r_X12_end {l : Launch} {g : zL} (a0 : Nat) (v1 : Int32) (μ : zM) (hT0 : zT zNN zσ1 a0 12) {rv : Int32} {μr : zM} (h : f_X12_end a0 v1 μ = (rv, μr)) : zMet l g yX12_end cX12_end 2 (some (.int)) 0 0 0 zNN zNN zσ1 zσ1 [.ref (zb g + a0), .int v1] μ (some (.int rv)) μr := by
  refine zMet.of (by decide +kernel) (Nat.le_of_ble_eq_true rfl) ?_
  intro p e s m args below meth c C0
  refine z_loc (lo1 := [(0, .ref (zb g + a0)), (1, .int v1)]) rfl ?_
  unfold f_X12_end at h
  refine z_iload_n C0 dX12_end_0 rfl 1 rfl ?_
  by_cases hc4 : (¬ (v1 < 0)) ∧ (v1 ≤ (μ (a0 + 1) 5))
  · have h := zif_t hc4 h
    refine z_join μ 16 [(0, .ref (zb g + a0)), (1, .int v1)] [] ?_ (fun k5 => ?_)
    · refine z_aload_n C0 dX12_end_16 rfl 0 rfl ?_
      refine z_getr C0 hT0 kf_12_7 zr_12_0 zx_12 (zs_12_0 hT0).1 dX12_end_17 ?_
      refine z_iconst (v := (5 : Int32)) C0 dX12_end_20 (by decide) ?_
      refine z_iload_n C0 dX12_end_21 rfl 1 rfl ?_
      obtain ⟨μ3, e_μ3, h⟩ := zl_of h
      refine z_iast (j := 5) C0 (zs_12_0 hT0).2 (by decide : zin (5 : Int32) 4688 = true) (by decide) e_μ3 dX12_end_22 ?_
      refine z_iload_n C0 dX12_end_23 rfl 1 rfl ?_
      skip
      obtain ⟨rfl, rfl⟩ := Prod.mk.inj h
      exact z_iret C0 rfl dX12_end_24
    · refine z_if_lt C0 14 dX12_end_1 (by decide) (fun c1 => ?_) (fun c1 => ?_)
      · exact absurd hc4 (fun q => q.1 c1)
      · refine z_iload_n C0 dX12_end_4 rfl 1 rfl ?_
        refine z_aload_n C0 dX12_end_5 rfl 0 rfl ?_
        refine z_getr C0 hT0 kf_12_7 zr_12_0 zx_12 (zs_12_0 hT0).1 dX12_end_6 ?_
        refine z_iconst (v := (5 : Int32)) C0 dX12_end_9 (by decide) ?_
        refine z_iald (j := 5) C0 (zs_12_0 hT0).2 (by decide : zin (5 : Int32) 4688 = true) (by decide) dX12_end_10 ?_
        refine z_icmp_le C0 16 dX12_end_11 (by decide) (fun c2 => ?_) (fun c2 => ?_)
        · exact k5
        · exact absurd hc4 (fun q => c2 q.2)
  · have h := zif_f hc4 h
    refine z_join μ 14 [(0, .ref (zb g + a0)), (1, .int v1)] [] ?_ (fun k6 => ?_)
    · refine z_iconst (v := (-1 : Int32)) C0 dX12_end_14 (by decide) ?_
      skip
      obtain ⟨rfl, rfl⟩ := Prod.mk.inj h
      exact z_iret C0 rfl dX12_end_15
    · refine z_if_lt C0 14 dX12_end_1 (by decide) (fun c1 => ?_) (fun c1 => ?_)
      · exact k6
      · refine z_iload_n C0 dX12_end_4 rfl 1 rfl ?_
        refine z_aload_n C0 dX12_end_5 rfl 0 rfl ?_
        refine z_getr C0 hT0 kf_12_7 zr_12_0 zx_12 (zs_12_0 hT0).1 dX12_end_6 ?_
        refine z_iconst (v := (5 : Int32)) C0 dX12_end_9 (by decide) ?_
        refine z_iald (j := 5) C0 (zs_12_0 hT0).2 (by decide : zin (5 : Int32) 4688 = true) (by decide) dX12_end_10 ?_
        refine z_icmp_le C0 16 dX12_end_11 (by decide) (fun c2 => ?_) (fun c2 => ?_)
        · exact absurd ⟨c1, c2⟩ hc4
        · exact k6
def f_X12_fault (a0 : Nat) (v1 : Int32) (μ : zM) : Int32 :=
  zl (if ¬ v1 = 0 then
      if ¬ v1 = (1 : Int32) then
        (-1 : Int32)
      else
        (μ (a0 + 1) 7)
    else
      (μ (a0 + 1) 6)) fun x5 =>
  x5
set_option maxHeartbeats 4000000 in
set_option maxRecDepth 100000 in
theorem r_X12_fault {l : Launch} {g : zL} (a0 : Nat) (v1 : Int32) (μ : zM) (hT0 : zT zNN zσ1 a0 12) {rv : Int32} (h : f_X12_fault a0 v1 μ = rv) : zMet l g yX12_fault cX12_fault 2 (some (.int)) 0 0 0 zNN zNN zσ1 zσ1 [.ref (zb g + a0), .int v1] μ (some (.int rv)) μ := by
  refine zMet.of (by decide +kernel) (Nat.le_of_ble_eq_true rfl) ?_
  intro p e s m args below meth c C0
  refine z_loc (lo1 := [(0, .ref (zb g + a0)), (1, .int v1)]) rfl ?_
  unfold f_X12_fault at h
  refine z_iload_n C0 dX12_fault_0 rfl 1 rfl ?_
  obtain ⟨x5, e_x5, h⟩ := zl_of h
  refine z_join μ 30 [] [.int x5] ?_ (fun k_J3 => ?_)
  · skip
    obtain rfl := h
    exact z_iret C0 rfl dX12_fault_30
  · have h := e_x5.symm
    refine z_if_ne C0 14 dX12_fault_1 (by decide) (fun c1 => ?_) (fun c1 => ?_)
    · have h := zif_t c1 h
      refine z_iload_n C0 dX12_fault_14 rfl 1 rfl ?_
      refine z_iconst (v := (1 : Int32)) C0 dX12_fault_15 (by decide) ?_
      refine z_icmp_ne C0 29 dX12_fault_16 (by decide) (fun c4 => ?_) (fun c4 => ?_)
      · have h := zif_t c4 h
        refine z_iconst (v := (-1 : Int32)) C0 dX12_fault_29 (by decide) ?_
        refine z_sub (lo1 := []) [] rfl ?_
        obtain rfl := h
        exact k_J3
      · have h := zif_f (fun q => q c4) h
        refine z_aload_n C0 dX12_fault_19 rfl 0 rfl ?_
        refine z_getr C0 hT0 kf_12_7 zr_12_0 zx_12 (zs_12_0 hT0).1 dX12_fault_20 ?_
        refine z_bipush (v := (7 : Int32)) C0 dX12_fault_23 (by decide) ?_
        refine z_iald (j := 7) C0 (zs_12_0 hT0).2 (by decide : zin (7 : Int32) 4688 = true) (by decide) dX12_fault_25 ?_
        refine z_goto C0 30 dX12_fault_26 (by decide) ?_
        refine z_sub (lo1 := []) [] rfl ?_
        obtain rfl := h
        exact k_J3
    · have h := zif_f (fun q => q c1) h
      refine z_aload_n C0 dX12_fault_4 rfl 0 rfl ?_
      refine z_getr C0 hT0 kf_12_7 zr_12_0 zx_12 (zs_12_0 hT0).1 dX12_fault_5 ?_
      refine z_bipush (v := (6 : Int32)) C0 dX12_fault_8 (by decide) ?_
      refine z_iald (j := 6) C0 (zs_12_0 hT0).2 (by decide : zin (6 : Int32) 4688 = true) (by decide) dX12_fault_10 ?_
      refine z_goto C0 30 dX12_fault_11 (by decide) ?_
      refine z_sub (lo1 := []) [] rfl ?_
      obtain rfl := h
      exact k_J3
def f_X12_feed_L20 (a0 : Nat) (v1 : Int32) (v2 : Int32) (v3 : Int32) (v4 : Int32) (v5 : Int32) : Nat → Int32 → zM → Option (zM)
  | 0, _, _ => none
  | n + 1, y3, μ4 =>
    if (20 : Int32) ≤ y3 then
      some μ4
    else
      zl (if (4 : Int32) ≤ y3 then
          if (8 : Int32) ≤ y3 then
            if (12 : Int32) ≤ y3 then
              if (16 : Int32) ≤ y3 then
                v5
              else
                v4
            else
              v3
          else
            v2
        else
          v1) fun x21 =>
      zg (zin ((10 : Int32) + (μ4 (a0 + 1) 5)) 4688) <|
      zl (zup μ4 (a0 + 1) (((10 : Int32) + (μ4 (a0 + 1) 5)).toNatClampNeg) ((x21 >>> (((24 : Int32) - ((8 : Int32) * (y3 % (4 : Int32)))) &&& 31)) &&& (255 : Int32))) fun μ23 =>
      zl (zup μ23 (a0 + 1) 5 ((μ23 (a0 + 1) 5) + (1 : Int32))) fun μ24 =>
      zl (y3 + (1 : Int32)) fun x25 =>
      f_X12_feed_L20 a0 v1 v2 v3 v4 v5 n x25 μ24
def f_X12_feed (a0 : Nat) (v1 : Int32) (v2 : Int32) (v3 : Int32) (v4 : Int32) (v5 : Int32) (μ : zM) : Option (Int32 × zM) :=
  if ((μ (a0 + 1) 5) + (20 : Int32)) ≤ (600 : Int32) then
    zbd (f_X12_feed_L20 a0 v1 v2 v3 v4 v5 zFU (0 : Int32) μ) fun μ26 =>
    some ((μ26 (a0 + 1) 5), μ26)
  else
    some ((-1 : Int32), μ)
set_option maxHeartbeats 4000000 in
set_option maxRecDepth 100000 in
theorem r_X12_feed_L20 {l : Launch} {g : zL} {p : Program} {e : Env} {s : State} {m : MethodId} {args : Array Value} {below : List Frame} {meth : Method} {c : Code} {Q : State → Prop} (C0 : zC p s m args meth c g cX12_feed yX12_feed 8 (some (.int))) (a0 : Nat) (v1 : Int32) (v2 : Int32) (v3 : Int32) (v4 : Int32) (v5 : Int32) (hU2 : zT zNN zσ1 a0 12) : ∀ (n : Nat) (y3 : Int32) (μ4 : zM) (μ26 : zM), f_X12_feed_L20 a0 v1 v2 v3 v4 v5 n y3 μ4 = some μ26 → Z p l e (zrm 0 0 0) s m args below meth c g Q 8 zNN 0 0 zσ1 μ26 122 [(0, .ref (zb g + a0))] [] → Z p l e (zrm 0 0 0) s m args below meth c g Q 8 zNN 0 0 zσ1 μ4 20 [(0, .ref (zb g + a0)), (1, .int v1), (2, .int v2), (3, .int v3), (4, .int v4), (5, .int v5), (6, .int y3)] [] := by
  intro n
  induction n with
  | zero =>
    intro y3 μ4 μ26 h kx
    rw [f_X12_feed_L20] at h
    cases h
  | succ n ih =>
    intro y3 μ4 μ26 h kx
    rw [f_X12_feed_L20] at h
    refine z_iload C0 dX12_feed_20 6 rfl ?_
    refine z_bipush (v := (20 : Int32)) C0 dX12_feed_22 (by decide) ?_
    refine z_icmp_ge C0 122 dX12_feed_24 (by decide) (fun c5 => ?_) (fun c5 => ?_)
    · have h := zif_t c5 h
      refine z_sub (lo1 := [(0, .ref (zb g + a0))]) [0] rfl ?_
      obtain rfl := (Option.some.inj h)
      exact kx
    · have h := zif_f c5 h
      refine z_iload C0 dX12_feed_27 6 rfl ?_
      refine z_iconst (v := (4 : Int32)) C0 dX12_feed_29 (by decide) ?_
      obtain ⟨x21, e_x21, h⟩ := zl_of h
      refine z_join μ4 73 [(0, .ref (zb g + a0)), (1, .int v1), (2, .int v2), (3, .int v3), (4, .int v4), (5, .int v5), (6, .int y3)] [.int x21] ?_ (fun k_J14 => ?_)
      · refine z_istore (lo1 := [(7, .int x21), (0, .ref (zb g + a0)), (1, .int v1), (2, .int v2), (3, .int v3), (4, .int v4), (5, .int v5), (6, .int y3)]) C0 dX12_feed_73 (by decide) rfl ?_
        refine z_aload_n C0 dX12_feed_75 rfl 1 rfl ?_
        refine z_getr C0 hU2 kf_12_7 zr_12_0 zx_12 (zs_12_0 hU2).1 dX12_feed_76 ?_
        refine z_bipush (v := (10 : Int32)) C0 dX12_feed_79 (by decide) ?_
        refine z_aload_n C0 dX12_feed_81 rfl 1 rfl ?_
        refine z_getr C0 hU2 kf_12_7 zr_12_0 zx_12 (zs_12_0 hU2).1 dX12_feed_82 ?_
        refine z_iconst (v := (5 : Int32)) C0 dX12_feed_85 (by decide) ?_
        refine z_iald (j := 5) C0 (zs_12_0 hU2).2 (by decide : zin (5 : Int32) 4688 = true) (by decide) dX12_feed_86 ?_
        refine z_iadd C0 dX12_feed_87 ?_
        refine z_iload C0 dX12_feed_88 0 rfl ?_
        refine z_bipush (v := (24 : Int32)) C0 dX12_feed_90 (by decide) ?_
        refine z_bipush (v := (8 : Int32)) C0 dX12_feed_92 (by decide) ?_
        refine z_iload C0 dX12_feed_94 7 rfl ?_
        refine z_iconst (v := (4 : Int32)) C0 dX12_feed_96 (by decide) ?_
        refine z_irem C0 dX12_feed_97 (by decide) ?_
        refine z_imul C0 dX12_feed_98 ?_
        refine z_isub C0 dX12_feed_99 ?_
        refine z_ishr C0 dX12_feed_100 ?_
        refine z_sipush (v := (255 : Int32)) C0 dX12_feed_101 (by decide) ?_
        refine z_iand C0 dX12_feed_104 ?_
        obtain ⟨g22, h⟩ := zg_of h
        obtain ⟨μ23, e_μ23, h⟩ := zl_of h
        refine z_iast C0 (zs_12_0 hU2).2 g22 rfl e_μ23 dX12_feed_105 ?_
        refine z_aload_n C0 dX12_feed_106 rfl 1 rfl ?_
        refine z_getr C0 hU2 kf_12_7 zr_12_0 zx_12 (zs_12_0 hU2).1 dX12_feed_107 ?_
        refine z_iconst (v := (5 : Int32)) C0 dX12_feed_110 (by decide) ?_
        refine z_dup2 C0 dX12_feed_111 rfl rfl ?_
        refine z_iald (j := 5) C0 (zs_12_0 hU2).2 (by decide : zin (5 : Int32) 4688 = true) (by decide) dX12_feed_112 ?_
        refine z_iconst (v := (1 : Int32)) C0 dX12_feed_113 (by decide) ?_
        refine z_iadd C0 dX12_feed_114 ?_
        obtain ⟨μ24, e_μ24, h⟩ := zl_of h
        refine z_iast (j := 5) C0 (zs_12_0 hU2).2 (by decide : zin (5 : Int32) 4688 = true) (by decide) e_μ24 dX12_feed_115 ?_
        obtain ⟨x25, e_x25, h⟩ := zl_of h
        refine z_iinc (lo1 := [(6, .int x25), (7, .int x21), (0, .ref (zb g + a0)), (1, .int v1), (2, .int v2), (3, .int v3), (4, .int v4), (5, .int v5)]) C0 dX12_feed_116 7 rfl (by decide) e_x25.symm (by decide) rfl ?_
        refine z_goto C0 20 dX12_feed_119 (by decide) ?_
        refine z_sub (lo1 := [(0, .ref (zb g + a0)), (1, .int v1), (2, .int v2), (3, .int v3), (4, .int v4), (5, .int v5), (6, .int x25)]) [2, 3, 4, 5, 6, 7, 0] rfl ?_
        exact ih _ _ _ h kx
      · have h := e_x21.symm
        refine z_icmp_ge C0 37 dX12_feed_30 (by decide) (fun c10 => ?_) (fun c10 => ?_)
        · have h := zif_t c10 h
          refine z_iload C0 dX12_feed_37 6 rfl ?_
          refine z_bipush (v := (8 : Int32)) C0 dX12_feed_39 (by decide) ?_
          refine z_icmp_ge C0 48 dX12_feed_41 (by decide) (fun c15 => ?_) (fun c15 => ?_)
          · have h := zif_t c15 h
            refine z_iload C0 dX12_feed_48 6 rfl ?_
            refine z_bipush (v := (12 : Int32)) C0 dX12_feed_50 (by decide) ?_
            refine z_icmp_ge C0 59 dX12_feed_52 (by decide) (fun c18 => ?_) (fun c18 => ?_)
            · have h := zif_t c18 h
              refine z_iload C0 dX12_feed_59 6 rfl ?_
              refine z_bipush (v := (16 : Int32)) C0 dX12_feed_61 (by decide) ?_
              refine z_icmp_ge C0 71 dX12_feed_63 (by decide) (fun c20 => ?_) (fun c20 => ?_)
              · have h := zif_t c20 h
                refine z_iload C0 dX12_feed_71 5 rfl ?_
                obtain rfl := h
                exact k_J14
              · have h := zif_f c20 h
                refine z_iload C0 dX12_feed_66 4 rfl ?_
                refine z_goto C0 73 dX12_feed_68 (by decide) ?_
                obtain rfl := h
                exact k_J14
            · have h := zif_f c18 h
              refine z_iload_n C0 dX12_feed_55 rfl 3 rfl ?_
              refine z_goto C0 73 dX12_feed_56 (by decide) ?_
              obtain rfl := h
              exact k_J14
          · have h := zif_f c15 h
            refine z_iload_n C0 dX12_feed_44 rfl 2 rfl ?_
            refine z_goto C0 73 dX12_feed_45 (by decide) ?_
            obtain rfl := h
            exact k_J14
        · have h := zif_f c10 h
          refine z_iload_n C0 dX12_feed_33 rfl 1 rfl ?_
          refine z_goto C0 73 dX12_feed_34 (by decide) ?_
          obtain rfl := h
          exact k_J14
set_option maxHeartbeats 4000000 in
set_option maxRecDepth 100000 in
theorem r_X12_feed {l : Launch} {g : zL} (a0 : Nat) (v1 : Int32) (v2 : Int32) (v3 : Int32) (v4 : Int32) (v5 : Int32) (μ : zM) (hT0 : zT zNN zσ1 a0 12) {rv : Int32} {μr : zM} (h : f_X12_feed a0 v1 v2 v3 v4 v5 μ = some (rv, μr)) : zMet l g yX12_feed cX12_feed 8 (some (.int)) 0 0 0 zNN zNN zσ1 zσ1 [.ref (zb g + a0), .int v1, .int v2, .int v3, .int v4, .int v5] μ (some (.int rv)) μr := by
  refine zMet.of (by decide +kernel) (Nat.le_of_ble_eq_true rfl) ?_
  intro p e s m args below meth c C0
  refine z_loc (lo1 := [(0, .ref (zb g + a0)), (1, .int v1), (2, .int v2), (3, .int v3), (4, .int v4), (5, .int v5)]) rfl ?_
  unfold f_X12_feed at h
  refine z_aload_n C0 dX12_feed_0 rfl 0 rfl ?_
  refine z_getr C0 hT0 kf_12_7 zr_12_0 zx_12 (zs_12_0 hT0).1 dX12_feed_1 ?_
  refine z_iconst (v := (5 : Int32)) C0 dX12_feed_4 (by decide) ?_
  refine z_iald (j := 5) C0 (zs_12_0 hT0).2 (by decide : zin (5 : Int32) 4688 = true) (by decide) dX12_feed_5 ?_
  refine z_bipush (v := (20 : Int32)) C0 dX12_feed_6 (by decide) ?_
  refine z_iadd C0 dX12_feed_8 ?_
  refine z_sipush (v := (600 : Int32)) C0 dX12_feed_9 (by decide) ?_
  refine z_icmp_le C0 17 dX12_feed_12 (by decide) (fun c1 => ?_) (fun c1 => ?_)
  · have h := zif_t c1 h
    refine z_iconst (v := (0 : Int32)) C0 dX12_feed_17 (by decide) ?_
    refine z_istore (lo1 := [(6, .int (0 : Int32)), (0, .ref (zb g + a0)), (1, .int v1), (2, .int v2), (3, .int v3), (4, .int v4), (5, .int v5)]) C0 dX12_feed_18 (by decide) rfl ?_
    refine z_sub (lo1 := [(0, .ref (zb g + a0)), (1, .int v1), (2, .int v2), (3, .int v3), (4, .int v4), (5, .int v5), (6, .int (0 : Int32))]) [1, 2, 3, 4, 5, 6, 0] rfl ?_
    obtain ⟨μ26, e_μ26, h⟩ := zbd_of h
    refine r_X12_feed_L20 C0 a0 v1 v2 v3 v4 v5 hT0 zFU (0 : Int32) μ μ26 e_μ26 ?_
    refine z_aload_n C0 dX12_feed_122 rfl 0 rfl ?_
    refine z_getr C0 hT0 kf_12_7 zr_12_0 zx_12 (zs_12_0 hT0).1 dX12_feed_123 ?_
    refine z_iconst (v := (5 : Int32)) C0 dX12_feed_126 (by decide) ?_
    refine z_iald (j := 5) C0 (zs_12_0 hT0).2 (by decide : zin (5 : Int32) 4688 = true) (by decide) dX12_feed_127 ?_
    have h := Option.some.inj h
    obtain ⟨rfl, rfl⟩ := Prod.mk.inj h
    exact z_iret C0 rfl dX12_feed_128
  · have h := zif_f c1 h
    refine z_iconst (v := (-1 : Int32)) C0 dX12_feed_15 (by decide) ?_
    have h := Option.some.inj h
    obtain ⟨rfl, rfl⟩ := Prod.mk.inj h
    exact z_iret C0 rfl dX12_feed_16
def f_X12_fogLine_L50 (a0 : Nat) (x4 : Int32) : Nat → Int32 → Int32 → zM → Option (Int32 × zM)
  | 0, _, _, _ => none
  | n + 1, y15, y16, μ17 =>
    if ¬ (μ17 a0 8) = 0 then
      some (y15, μ17)
    else
      if (¬ y16 = 0) ∨ ((μ17 a0 5) = (1 : Int32)) then
        zl (if ((μ17 a0 5) = (1 : Int32)) ∧ ((¬ ((8 : Int32) ≤ (μ17 a0 6))) ∧ (((y15 >>> ((μ17 a0 6) &&& 31)) &&& (1 : Int32)) = (1 : Int32))) then
            zl (f_X12_also a0 (2 : Int32) (μ17 a0 4) μ17) fun μ40 =>
            μ40
          else
            μ17) fun μ41 =>
        zbd2 (f_X12_numbered a0 (0 : Int32) (7 : Int32) μ41) fun r42 μ43 =>
        zl (y15 ||| ((1 : Int32) <<< (r42 &&& 31))) fun x44 =>
        f_X12_fogLine_L50 a0 x4 n x44 (0 : Int32) μ43
      else
        some (y15, μ17)
def f_X12_fogLine (a0 : Nat) (μ : zM) : Option (zM) :=
  zl (μ a0 4) fun x1 =>
  zl (if (8 : Int32) ≤ (μ (a0 + 3) 0) then
      (0 : Int32)
    else
      (1 : Int32)) fun x4 =>
  zbd2 (f_X12_takes a0 (24 : Int32) (24 : Int32) μ) fun r5 μ6 =>
  zbd (if ¬ r5 = (24 : Int32) then
      some μ6
    else
      zl (if ¬ x4 = 0 then
          μ6
        else
          zl (f_X12_also a0 (3 : Int32) x1 μ6) fun μ12 =>
          μ12) fun μ13 =>
      zbd2 (f_X12_fogLine_L50 a0 x4 zFU (0 : Int32) (1 : Int32) μ13) fun x45 μ46 =>
      if x4 = 0 then
        some μ46
      else
        zg (zin ((1 : Int32) + (μ46 (a0 + 3) 0)) 121) <|
        zl (zup μ46 (a0 + 3) (((1 : Int32) + (μ46 (a0 + 3) 0)).toNatClampNeg) x45) fun μ49 =>
        zl (zup μ49 (a0 + 3) 0 ((μ49 (a0 + 3) 0) + (1 : Int32))) fun μ50 =>
        some μ50) fun μ51 =>
  zbd (f_X12_endsLine a0 μ51) fun μ52 =>
  some μ52
set_option maxHeartbeats 4000000 in
set_option maxRecDepth 100000 in
theorem r_X12_fogLine_L50 {l : Launch} {g : zL} {p : Program} {e : Env} {s : State} {m : MethodId} {args : Array Value} {below : List Frame} {meth : Method} {c : Code} {Q : State → Prop} (C0 : zC p s m args meth c g cX12_fogLine yX12_fogLine 5 none) (a0 : Nat) (x4 : Int32) (hU14 : zT zNN zσ1 a0 12) : ∀ (n : Nat) (y15 : Int32) (y16 : Int32) (μ17 : zM) (x45 : Int32) (μ46 : zM), f_X12_fogLine_L50 a0 x4 n y15 y16 μ17 = some (x45, μ46) → Z p l e (zrm 6 0 0) s m args below meth c g Q 5 zNN 0 0 zσ1 μ46 126 [(0, .ref (zb g + a0)), (2, .int x4), (3, .int x45)] [] → Z p l e (zrm 6 0 0) s m args below meth c g Q 5 zNN 0 0 zσ1 μ17 50 [(0, .ref (zb g + a0)), (2, .int x4), (3, .int y15), (4, .int y16)] [] := by
  intro n
  induction n with
  | zero =>
    intro y15 y16 μ17 x45 μ46 h kx
    rw [f_X12_fogLine_L50] at h
    cases h
  | succ n ih =>
    intro y15 y16 μ17 x45 μ46 h kx
    rw [f_X12_fogLine_L50] at h
    refine z_aload_n C0 dX12_fogLine_50 rfl 0 rfl ?_
    refine z_geti C0 hU14.1 hU14.2.2.1 kf_12_102 zr_12_8 dX12_fogLine_51 ?_
    refine z_if_ne C0 126 dX12_fogLine_54 (by decide) (fun c18 => ?_) (fun c18 => ?_)
    · have h := zif_t c18 h
      refine z_sub (lo1 := [(0, .ref (zb g + a0)), (2, .int x4), (3, .int y15)]) [0, 1, 2] rfl ?_
      obtain ⟨rfl, rfl⟩ := Prod.mk.inj (Option.some.inj h)
      exact kx
    · have h := zif_f (fun q => q c18) h
      refine z_iload C0 dX12_fogLine_57 3 rfl ?_
      by_cases hc53 : (¬ y16 = 0) ∨ ((μ17 a0 5) = (1 : Int32))
      · have h := zif_t hc53 h
        refine z_join μ17 70 [(0, .ref (zb g + a0)), (2, .int x4), (3, .int y15), (4, .int y16)] [] ?_ (fun k54 => ?_)
        · refine z_aload_n C0 dX12_fogLine_70 rfl 0 rfl ?_
          refine z_geti C0 hU14.1 hU14.2.2.1 kf_12_79 zr_12_5 dX12_fogLine_71 ?_
          refine z_iconst (v := (1 : Int32)) C0 dX12_fogLine_74 (by decide) ?_
          obtain ⟨μ41, e_μ41, h⟩ := zl_of h
          refine z_join μ41 108 [(0, .ref (zb g + a0)), (2, .int x4), (3, .int y15)] [] ?_ (fun k_J39 => ?_)
          · refine z_iload_n C0 dX12_fogLine_108 rfl 2 rfl ?_
            refine z_iconst (v := (1 : Int32)) C0 dX12_fogLine_109 (by decide) ?_
            refine z_aload_n C0 dX12_fogLine_110 rfl 0 rfl ?_
            refine z_iconst (v := (0 : Int32)) C0 dX12_fogLine_111 (by decide) ?_
            refine z_bipush (v := (7 : Int32)) C0 dX12_fogLine_112 (by decide) ?_
            obtain ⟨r42, μ43, e_r42, h⟩ := zbd2_of h
            refine z_callV (As := [.int (0 : Int32), .int (7 : Int32)]) (rest := [.int (1 : Int32), .int y15]) C0 rfl kc_X12_numbered km_RX12_123 (r_X12_numbered (l := l) (g := g) a0 (0 : Int32) (7 : Int32) μ41 hU14 e_r42) hU14.1 hU14.2.2.1 rfl (by decide) rfl (Nat.le_of_ble_eq_true rfl) (Nat.le_of_ble_eq_true rfl) (Nat.le_of_ble_eq_true rfl) (Nat.le_of_ble_eq_true rfl) (Nat.le_refl _) rfl rfl dX12_fogLine_114 ?_
            refine z_ishl C0 dX12_fogLine_117 ?_
            refine z_ior C0 dX12_fogLine_118 ?_
            obtain ⟨x44, e_x44, h⟩ := zl_of h
            refine z_nm e_x44 ?_
            refine z_istore_n (lo1 := [(3, .int x44), (0, .ref (zb g + a0)), (2, .int x4)]) C0 dX12_fogLine_119 rfl (by decide) rfl ?_
            refine z_iconst (v := (0 : Int32)) C0 dX12_fogLine_120 (by decide) ?_
            refine z_istore (lo1 := [(4, .int (0 : Int32)), (3, .int x44), (0, .ref (zb g + a0)), (2, .int x4)]) C0 dX12_fogLine_121 (by decide) rfl ?_
            refine z_goto C0 50 dX12_fogLine_123 (by decide) ?_
            refine z_sub (lo1 := [(0, .ref (zb g + a0)), (2, .int x4), (3, .int x44), (4, .int (0 : Int32))]) [2, 3, 1, 0] rfl ?_
            exact ih _ _ _ _ _ h kx
          · have h := e_μ41.symm
            by_cases hc55 : ((μ17 a0 5) = (1 : Int32)) ∧ ((¬ ((8 : Int32) ≤ (μ17 a0 6))) ∧ (((y15 >>> ((μ17 a0 6) &&& 31)) &&& (1 : Int32)) = (1 : Int32)))
            · have h := zif_t hc55 h
              refine z_join μ17 99 [(0, .ref (zb g + a0)), (2, .int x4), (3, .int y15), (4, .int y16)] [] ?_ (fun k56 => ?_)
              · refine z_aload_n C0 dX12_fogLine_99 rfl 0 rfl ?_
                refine z_iconst (v := (2 : Int32)) C0 dX12_fogLine_100 (by decide) ?_
                refine z_aload_n C0 dX12_fogLine_101 rfl 0 rfl ?_
                refine z_geti C0 hU14.1 hU14.2.2.1 kf_12_76 zr_12_4 dX12_fogLine_102 ?_
                obtain ⟨μ40, e_μ40, h⟩ := zl_of h
                refine z_callV (As := [.int (2 : Int32), .int (μ17 a0 4)]) (rest := []) C0 rfl kc_X12_also km_RX12_113 (r_X12_also (l := l) (g := g) a0 (2 : Int32) (μ17 a0 4) μ17 hU14 e_μ40.symm) hU14.1 hU14.2.2.1 rfl (by decide) rfl (Nat.le_of_ble_eq_true rfl) (Nat.le_of_ble_eq_true rfl) (Nat.le_of_ble_eq_true rfl) (Nat.le_of_ble_eq_true rfl) (Nat.le_refl _) rfl rfl dX12_fogLine_105 ?_
                refine z_sub (lo1 := [(0, .ref (zb g + a0)), (2, .int x4), (3, .int y15)]) [0, 1, 2] rfl ?_
                obtain rfl := h
                exact k_J39
              · refine z_icmp_ne C0 108 dX12_fogLine_75 (by decide) (fun c36 => ?_) (fun c36 => ?_)
                · exact absurd hc55 (fun q => c36 q.1)
                · refine z_aload_n C0 dX12_fogLine_78 rfl 0 rfl ?_
                  refine z_geti C0 hU14.1 hU14.2.2.1 kf_12_99 zr_12_6 dX12_fogLine_79 ?_
                  refine z_bipush (v := (8 : Int32)) C0 dX12_fogLine_82 (by decide) ?_
                  refine z_icmp_ge C0 108 dX12_fogLine_84 (by decide) (fun c37 => ?_) (fun c37 => ?_)
                  · exact absurd hc55 (fun q => (fun q => q.1 c37) q.2)
                  · refine z_iload_n C0 dX12_fogLine_87 rfl 2 rfl ?_
                    refine z_aload_n C0 dX12_fogLine_88 rfl 0 rfl ?_
                    refine z_geti C0 hU14.1 hU14.2.2.1 kf_12_99 zr_12_6 dX12_fogLine_89 ?_
                    refine z_ishr C0 dX12_fogLine_92 ?_
                    refine z_iconst (v := (1 : Int32)) C0 dX12_fogLine_93 (by decide) ?_
                    refine z_iand C0 dX12_fogLine_94 ?_
                    refine z_iconst (v := (1 : Int32)) C0 dX12_fogLine_95 (by decide) ?_
                    refine z_icmp_ne C0 108 dX12_fogLine_96 (by decide) (fun c38 => ?_) (fun c38 => ?_)
                    · exact absurd hc55 (fun q => (fun q => (fun q => c38 q) q.2) q.2)
                    · exact k56
            · have h := zif_f hc55 h
              refine z_join μ17 108 [(0, .ref (zb g + a0)), (2, .int x4), (3, .int y15), (4, .int y16)] [] ?_ (fun k57 => ?_)
              · refine z_sub (lo1 := [(0, .ref (zb g + a0)), (2, .int x4), (3, .int y15)]) [0, 1, 2] rfl ?_
                obtain rfl := h
                exact k_J39
              · refine z_icmp_ne C0 108 dX12_fogLine_75 (by decide) (fun c36 => ?_) (fun c36 => ?_)
                · exact k57
                · refine z_aload_n C0 dX12_fogLine_78 rfl 0 rfl ?_
                  refine z_geti C0 hU14.1 hU14.2.2.1 kf_12_99 zr_12_6 dX12_fogLine_79 ?_
                  refine z_bipush (v := (8 : Int32)) C0 dX12_fogLine_82 (by decide) ?_
                  refine z_icmp_ge C0 108 dX12_fogLine_84 (by decide) (fun c37 => ?_) (fun c37 => ?_)
                  · exact k57
                  · refine z_iload_n C0 dX12_fogLine_87 rfl 2 rfl ?_
                    refine z_aload_n C0 dX12_fogLine_88 rfl 0 rfl ?_
                    refine z_geti C0 hU14.1 hU14.2.2.1 kf_12_99 zr_12_6 dX12_fogLine_89 ?_
                    refine z_ishr C0 dX12_fogLine_92 ?_
                    refine z_iconst (v := (1 : Int32)) C0 dX12_fogLine_93 (by decide) ?_
                    refine z_iand C0 dX12_fogLine_94 ?_
                    refine z_iconst (v := (1 : Int32)) C0 dX12_fogLine_95 (by decide) ?_
                    refine z_icmp_ne C0 108 dX12_fogLine_96 (by decide) (fun c38 => ?_) (fun c38 => ?_)
                    · exact k57
                    · exact absurd ⟨c36, ⟨c37, c38⟩⟩ hc55
        · refine z_if_ne C0 70 dX12_fogLine_59 (by decide) (fun c27 => ?_) (fun c27 => ?_)
          · exact k54
          · refine z_aload_n C0 dX12_fogLine_62 rfl 0 rfl ?_
            refine z_geti C0 hU14.1 hU14.2.2.1 kf_12_79 zr_12_5 dX12_fogLine_63 ?_
            refine z_iconst (v := (1 : Int32)) C0 dX12_fogLine_66 (by decide) ?_
            refine z_icmp_ne C0 126 dX12_fogLine_67 (by decide) (fun c35 => ?_) (fun c35 => ?_)
            · exact absurd hc53 (fun q => q.elim (fun z => z c27) (fun q => c35 q))
            · exact k54
      · have h := zif_f hc53 h
        refine z_join μ17 126 [(0, .ref (zb g + a0)), (2, .int x4), (3, .int y15), (4, .int y16)] [] ?_ (fun k58 => ?_)
        · refine z_sub (lo1 := [(0, .ref (zb g + a0)), (2, .int x4), (3, .int y15)]) [0, 1, 2] rfl ?_
          obtain ⟨rfl, rfl⟩ := Prod.mk.inj (Option.some.inj h)
          exact kx
        · refine z_if_ne C0 70 dX12_fogLine_59 (by decide) (fun c27 => ?_) (fun c27 => ?_)
          · exact absurd (Or.inl c27) hc53
          · refine z_aload_n C0 dX12_fogLine_62 rfl 0 rfl ?_
            refine z_geti C0 hU14.1 hU14.2.2.1 kf_12_79 zr_12_5 dX12_fogLine_63 ?_
            refine z_iconst (v := (1 : Int32)) C0 dX12_fogLine_66 (by decide) ?_
            refine z_icmp_ne C0 126 dX12_fogLine_67 (by decide) (fun c35 => ?_) (fun c35 => ?_)
            · exact k58
            · exact absurd (Or.inr c35) hc53
set_option maxHeartbeats 4000000 in
set_option maxRecDepth 100000 in
theorem r_X12_fogLine {l : Launch} {g : zL} (a0 : Nat) (μ : zM) (hT0 : zT zNN zσ1 a0 12) {μr : zM} (h : f_X12_fogLine a0 μ = some μr) : zMet l g yX12_fogLine cX12_fogLine 5 none 6 0 0 zNN zNN zσ1 zσ1 [.ref (zb g + a0)] μ none μr := by
  refine zMet.of (by decide +kernel) (Nat.le_of_ble_eq_true rfl) ?_
  intro p e s m args below meth c C0
  refine z_loc (lo1 := [(0, .ref (zb g + a0))]) rfl ?_
  unfold f_X12_fogLine at h
  refine z_aload_n C0 dX12_fogLine_0 rfl 0 rfl ?_
  refine z_geti C0 hT0.1 hT0.2.2.1 kf_12_76 zr_12_4 dX12_fogLine_1 ?_
  obtain ⟨x1, e_x1, h⟩ := zl_of h
  refine z_nm e_x1 ?_
  refine z_istore_n (lo1 := [(1, .int x1), (0, .ref (zb g + a0))]) C0 dX12_fogLine_4 rfl (by decide) rfl ?_
  refine z_aload_n C0 dX12_fogLine_5 rfl 1 rfl ?_
  refine z_getr C0 hT0 kf_12_17 zr_12_9 zx_12 (zs_12_9 hT0).1 dX12_fogLine_6 ?_
  refine z_iconst (v := (0 : Int32)) C0 dX12_fogLine_9 (by decide) ?_
  refine z_iald (j := 0) C0 (zs_12_9 hT0).2 (by decide : zin (0 : Int32) 121 = true) (by decide) dX12_fogLine_10 ?_
  refine z_bipush (v := (8 : Int32)) C0 dX12_fogLine_11 (by decide) ?_
  obtain ⟨x4, e_x4, h⟩ := zl_of h
  refine z_join μ 21 [(0, .ref (zb g + a0)), (1, .int x1)] [.int x4] ?_ (fun k_J3 => ?_)
  · refine z_istore_n (lo1 := [(2, .int x4), (0, .ref (zb g + a0)), (1, .int x1)]) C0 dX12_fogLine_21 rfl (by decide) rfl ?_
    refine z_aload_n C0 dX12_fogLine_22 rfl 1 rfl ?_
    refine z_bipush (v := (24 : Int32)) C0 dX12_fogLine_23 (by decide) ?_
    refine z_bipush (v := (24 : Int32)) C0 dX12_fogLine_25 (by decide) ?_
    obtain ⟨r5, μ6, e_r5, h⟩ := zbd2_of h
    refine z_callV (As := [.int (24 : Int32), .int (24 : Int32)]) (rest := []) C0 rfl kc_X12_takes km_RX12_127 (r_X12_takes (l := l) (g := g) a0 (24 : Int32) (24 : Int32) μ hT0 e_r5) hT0.1 hT0.2.2.1 rfl (by decide) rfl (Nat.le_of_ble_eq_true rfl) (Nat.le_of_ble_eq_true rfl) (Nat.le_of_ble_eq_true rfl) (Nat.le_of_ble_eq_true rfl) (Nat.le_refl _) rfl rfl dX12_fogLine_27 ?_
    refine z_bipush (v := (24 : Int32)) C0 dX12_fogLine_30 (by decide) ?_
    obtain ⟨μ51, e_μ51, h⟩ := zbd_of h
    refine z_join μ51 154 [(0, .ref (zb g + a0))] [] ?_ (fun k_J9 => ?_)
    · refine z_aload_n C0 dX12_fogLine_154 rfl 0 rfl ?_
      obtain ⟨μ52, e_μ52, h⟩ := zbd_of h
      refine z_callV (As := []) (rest := []) C0 rfl kc_X12_endsLine km_RX12_137 (r_X12_endsLine (l := l) (g := g) a0 μ51 hT0 e_μ52) hT0.1 hT0.2.2.1 rfl (by decide) rfl (Nat.le_of_ble_eq_true rfl) (Nat.le_of_ble_eq_true rfl) (Nat.le_of_ble_eq_true rfl) (Nat.le_of_ble_eq_true rfl) (Nat.le_refl _) rfl rfl dX12_fogLine_155 ?_
      have h := Option.some.inj h
      obtain rfl := h
      exact z_vret C0 rfl dX12_fogLine_158
    · have h := e_μ51
      refine z_icmp_ne C0 154 dX12_fogLine_32 (by decide) (fun c7 => ?_) (fun c7 => ?_)
      · have h := zif_t c7 h
        refine z_sub (lo1 := [(0, .ref (zb g + a0))]) [1] rfl ?_
        obtain rfl := (Option.some.inj h)
        exact k_J9
      · have h := zif_f (fun q => q c7) h
        refine z_iload_n C0 dX12_fogLine_35 rfl 0 rfl ?_
        obtain ⟨μ13, e_μ13, h⟩ := zl_of h
        refine z_join μ13 45 [(0, .ref (zb g + a0)), (2, .int x4)] [] ?_ (fun k_J11 => ?_)
        · refine z_iconst (v := (0 : Int32)) C0 dX12_fogLine_45 (by decide) ?_
          refine z_istore_n (lo1 := [(3, .int (0 : Int32)), (0, .ref (zb g + a0)), (2, .int x4)]) C0 dX12_fogLine_46 rfl (by decide) rfl ?_
          refine z_iconst (v := (1 : Int32)) C0 dX12_fogLine_47 (by decide) ?_
          refine z_istore (lo1 := [(4, .int (1 : Int32)), (3, .int (0 : Int32)), (0, .ref (zb g + a0)), (2, .int x4)]) C0 dX12_fogLine_48 (by decide) rfl ?_
          refine z_sub (lo1 := [(0, .ref (zb g + a0)), (2, .int x4), (3, .int (0 : Int32)), (4, .int (1 : Int32))]) [2, 3, 1, 0] rfl ?_
          obtain ⟨x45, μ46, e_x45, h⟩ := zbd2_of h
          refine r_X12_fogLine_L50 C0 a0 x4 hT0 zFU (0 : Int32) (1 : Int32) μ13 x45 μ46 e_x45 ?_
          refine z_iload_n C0 dX12_fogLine_126 rfl 1 rfl ?_
          refine z_if_eq C0 154 dX12_fogLine_127 (by decide) (fun c47 => ?_) (fun c47 => ?_)
          · have h := zif_t c47 h
            refine z_sub (lo1 := [(0, .ref (zb g + a0))]) [0] rfl ?_
            obtain rfl := (Option.some.inj h)
            exact k_J9
          · have h := zif_f c47 h
            refine z_aload_n C0 dX12_fogLine_130 rfl 0 rfl ?_
            refine z_getr C0 hT0 kf_12_17 zr_12_9 zx_12 (zs_12_9 hT0).1 dX12_fogLine_131 ?_
            refine z_iconst (v := (1 : Int32)) C0 dX12_fogLine_134 (by decide) ?_
            refine z_aload_n C0 dX12_fogLine_135 rfl 0 rfl ?_
            refine z_getr C0 hT0 kf_12_17 zr_12_9 zx_12 (zs_12_9 hT0).1 dX12_fogLine_136 ?_
            refine z_iconst (v := (0 : Int32)) C0 dX12_fogLine_139 (by decide) ?_
            refine z_iald (j := 0) C0 (zs_12_9 hT0).2 (by decide : zin (0 : Int32) 121 = true) (by decide) dX12_fogLine_140 ?_
            refine z_iadd C0 dX12_fogLine_141 ?_
            refine z_iload_n C0 dX12_fogLine_142 rfl 2 rfl ?_
            obtain ⟨g48, h⟩ := zg_of h
            obtain ⟨μ49, e_μ49, h⟩ := zl_of h
            refine z_iast C0 (zs_12_9 hT0).2 g48 rfl e_μ49 dX12_fogLine_143 ?_
            refine z_aload_n C0 dX12_fogLine_144 rfl 0 rfl ?_
            refine z_getr C0 hT0 kf_12_17 zr_12_9 zx_12 (zs_12_9 hT0).1 dX12_fogLine_145 ?_
            refine z_iconst (v := (0 : Int32)) C0 dX12_fogLine_148 (by decide) ?_
            refine z_dup2 C0 dX12_fogLine_149 rfl rfl ?_
            refine z_iald (j := 0) C0 (zs_12_9 hT0).2 (by decide : zin (0 : Int32) 121 = true) (by decide) dX12_fogLine_150 ?_
            refine z_iconst (v := (1 : Int32)) C0 dX12_fogLine_151 (by decide) ?_
            refine z_iadd C0 dX12_fogLine_152 ?_
            obtain ⟨μ50, e_μ50, h⟩ := zl_of h
            refine z_iast (j := 0) C0 (zs_12_9 hT0).2 (by decide : zin (0 : Int32) 121 = true) (by decide) e_μ50 dX12_fogLine_153 ?_
            refine z_sub (lo1 := [(0, .ref (zb g + a0))]) [0] rfl ?_
            obtain rfl := (Option.some.inj h)
            exact k_J9
        · have h := e_μ13.symm
          refine z_if_ne C0 45 dX12_fogLine_36 (by decide) (fun c10 => ?_) (fun c10 => ?_)
          · have h := zif_t c10 h
            refine z_sub (lo1 := [(0, .ref (zb g + a0)), (2, .int x4)]) [1, 0] rfl ?_
            obtain rfl := h
            exact k_J11
          · have h := zif_f (fun q => q c10) h
            refine z_aload_n C0 dX12_fogLine_39 rfl 1 rfl ?_
            refine z_iconst (v := (3 : Int32)) C0 dX12_fogLine_40 (by decide) ?_
            refine z_iload_n C0 dX12_fogLine_41 rfl 2 rfl ?_
            obtain ⟨μ12, e_μ12, h⟩ := zl_of h
            refine z_callV (As := [.int (3 : Int32), .int x1]) (rest := []) C0 rfl kc_X12_also km_RX12_113 (r_X12_also (l := l) (g := g) a0 (3 : Int32) x1 μ6 hT0 e_μ12.symm) hT0.1 hT0.2.2.1 rfl (by decide) rfl (Nat.le_of_ble_eq_true rfl) (Nat.le_of_ble_eq_true rfl) (Nat.le_of_ble_eq_true rfl) (Nat.le_of_ble_eq_true rfl) (Nat.le_refl _) rfl rfl dX12_fogLine_42 ?_
            refine z_sub (lo1 := [(0, .ref (zb g + a0)), (2, .int x4)]) [1, 0] rfl ?_
            obtain rfl := h
            exact k_J11
  · have h := e_x4.symm
    refine z_icmp_ge C0 20 dX12_fogLine_13 (by decide) (fun c2 => ?_) (fun c2 => ?_)
    · have h := zif_t c2 h
      refine z_iconst (v := (0 : Int32)) C0 dX12_fogLine_20 (by decide) ?_
      refine z_sub (lo1 := [(0, .ref (zb g + a0)), (1, .int x1)]) [1, 0] rfl ?_
      obtain rfl := h
      exact k_J3
    · have h := zif_f c2 h
      refine z_iconst (v := (1 : Int32)) C0 dX12_fogLine_16 (by decide) ?_
      refine z_goto C0 21 dX12_fogLine_17 (by decide) ?_
      refine z_sub (lo1 := [(0, .ref (zb g + a0)), (1, .int x1)]) [1, 0] rfl ?_
      obtain rfl := h
      exact k_J3
def f_X12_further_L45 (a0 : Nat) (v2 : Int32) (v5 : Int32) (v6 : Int32) (x4 : Int32) (x9 : Int32) : Nat → Int32 → zM → Option (zM)
  | 0, _, _ => none
  | n + 1, y11, μ12 =>
    if v5 ≤ y11 then
      some μ12
    else
      zg (zin (v6 + ((2 : Int32) * y11)) 24) <|
      zg (zin ((v6 + ((2 : Int32) * y11)) + (1 : Int32)) 24) <|
      zbd2 (f_X12_numbered a0 (zBND.getD ((v6 + ((2 : Int32) * y11)).toNatClampNeg) 0) (zBND.getD (((v6 + ((2 : Int32) * y11)) + (1 : Int32)).toNatClampNeg) 0) μ12) fun r16 μ17 =>
      zbd (if x4 = 0 then
          some μ17
        else
          zg (zin (x9 + y11) 121) <|
          zl (zup μ17 (a0 + 3) ((x9 + y11).toNatClampNeg) r16) fun μ21 =>
          some μ21) fun μ22 =>
      zl (y11 + (1 : Int32)) fun x23 =>
      f_X12_further_L45 a0 v2 v5 v6 x4 x9 n x23 μ22
def f_X12_further (a0 : Nat) (v1 : Int32) (v2 : Int32) (v3 : Int32) (v4 : Int32) (v5 : Int32) (v6 : Int32) (μ : zM) : Option (zM) :=
  zg (zin v2 121) <|
  zl (if v3 ≤ (μ (a0 + 3) (v2.toNatClampNeg)) then
      (0 : Int32)
    else
      (1 : Int32)) fun x4 =>
  zl (if ¬ x4 = 0 then
      μ
    else
      zl (f_X12_also a0 (3 : Int32) v1 μ) fun μ7 =>
      μ7) fun μ8 =>
  zl (v4 + (v5 * (μ8 (a0 + 3) (v2.toNatClampNeg)))) fun x9 =>
  zbd (f_X12_further_L45 a0 v2 v5 v6 x4 x9 zFU (0 : Int32) μ8) fun μ24 =>
  zl (if x4 = 0 then
      μ24
    else
      zl (zup μ24 (a0 + 3) (v2.toNatClampNeg) ((μ24 (a0 + 3) (v2.toNatClampNeg)) + (1 : Int32))) fun μ27 =>
      μ27) fun μ28 =>
  some μ28
set_option maxHeartbeats 4000000 in
set_option maxRecDepth 100000 in
theorem r_X12_further_L45 {l : Launch} {g : zL} {κ : zK} {p : Program} {e : Env} {s : State} {m : MethodId} {args : Array Value} {below : List Frame} {meth : Method} {c : Code} {Q : State → Prop} (C0 : zC p s m args meth c g cX12_further yX12_further 11 none) (hSp : zSK g κ) (a0 : Nat) (v2 : Int32) (v5 : Int32) (v6 : Int32) (x4 : Int32) (x9 : Int32) (hU10 : zT zNN zσ1 a0 12) : ∀ (n : Nat) (y11 : Int32) (μ12 : zM) (μ24 : zM), f_X12_further_L45 a0 v2 v5 v6 x4 x9 n y11 μ12 = some μ24 → Z p l e (zrm 6 0 0) s m args below meth c g Q 11 zNN 0 0 zσ1 μ24 105 [(0, .ref (zb g + a0)), (2, .int v2), (7, .int x4)] [] → Z p l e (zrm 6 0 0) s m args below meth c g Q 11 zNN 0 0 zσ1 μ12 45 [(0, .ref (zb g + a0)), (2, .int v2), (5, .int v5), (6, .int v6), (7, .int x4), (8, .int x9), (9, .int y11)] [] := by
  have hF := hSp.at C0
  intro n
  induction n with
  | zero =>
    intro y11 μ12 μ24 h kx
    rw [f_X12_further_L45] at h
    cases h
  | succ n ih =>
    intro y11 μ12 μ24 h kx
    rw [f_X12_further_L45] at h
    refine z_iload C0 dX12_further_45 6 rfl ?_
    refine z_iload C0 dX12_further_47 2 rfl ?_
    refine z_icmp_ge C0 105 dX12_further_49 (by decide) (fun c13 => ?_) (fun c13 => ?_)
    · have h := zif_t c13 h
      refine z_sub (lo1 := [(0, .ref (zb g + a0)), (2, .int v2), (7, .int x4)]) [0, 1, 4] rfl ?_
      obtain rfl := (Option.some.inj h)
      exact kx
    · have h := zif_f c13 h
      refine z_aload_n C0 dX12_further_52 rfl 0 rfl ?_
      refine z_gets C0 hF.2.1.1 kl_12_120 dX12_further_53 ?_
      refine z_iload C0 dX12_further_56 3 rfl ?_
      refine z_iconst (v := (2 : Int32)) C0 dX12_further_58 (by decide) ?_
      refine z_iload C0 dX12_further_59 6 rfl ?_
      refine z_imul C0 dX12_further_61 ?_
      refine z_iadd C0 dX12_further_62 ?_
      obtain ⟨g14, h⟩ := zg_of h
      refine z_ialdT (f := fun j => zBND.getD j 0) C0 hF.2.1.2 g14 rfl dX12_further_63 ?_
      refine z_gets C0 hF.2.1.1 kl_12_120 dX12_further_64 ?_
      refine z_iload C0 dX12_further_67 3 rfl ?_
      refine z_iconst (v := (2 : Int32)) C0 dX12_further_69 (by decide) ?_
      refine z_iload C0 dX12_further_70 6 rfl ?_
      refine z_imul C0 dX12_further_72 ?_
      refine z_iadd C0 dX12_further_73 ?_
      refine z_iconst (v := (1 : Int32)) C0 dX12_further_74 (by decide) ?_
      refine z_iadd C0 dX12_further_75 ?_
      obtain ⟨g15, h⟩ := zg_of h
      refine z_ialdT (f := fun j => zBND.getD j 0) C0 hF.2.1.2 g15 rfl dX12_further_76 ?_
      obtain ⟨r16, μ17, e_r16, h⟩ := zbd2_of h
      refine z_callV (As := [.int (zBND.getD ((v6 + ((2 : Int32) * y11)).toNatClampNeg) 0), .int (zBND.getD (((v6 + ((2 : Int32) * y11)) + (1 : Int32)).toNatClampNeg) 0)]) (rest := []) C0 rfl kc_X12_numbered km_RX12_123 (r_X12_numbered (l := l) (g := g) a0 (zBND.getD ((v6 + ((2 : Int32) * y11)).toNatClampNeg) 0) (zBND.getD (((v6 + ((2 : Int32) * y11)) + (1 : Int32)).toNatClampNeg) 0) μ12 hU10 e_r16) hU10.1 hU10.2.2.1 rfl (by decide) rfl (Nat.le_of_ble_eq_true rfl) (Nat.le_of_ble_eq_true rfl) (Nat.le_of_ble_eq_true rfl) (Nat.le_of_ble_eq_true rfl) (Nat.le_refl _) rfl rfl dX12_further_77 ?_
      refine z_istore (lo1 := [(10, .int r16), (0, .ref (zb g + a0)), (2, .int v2), (5, .int v5), (6, .int v6), (7, .int x4), (8, .int x9), (9, .int y11)]) C0 dX12_further_80 (by decide) rfl ?_
      refine z_iload C0 dX12_further_82 5 rfl ?_
      obtain ⟨μ22, e_μ22, h⟩ := zbd_of h
      refine z_join μ22 99 [(0, .ref (zb g + a0)), (2, .int v2), (5, .int v5), (6, .int v6), (7, .int x4), (8, .int x9), (9, .int y11)] [] ?_ (fun k_J19 => ?_)
      · obtain ⟨x23, e_x23, h⟩ := zl_of h
        refine z_iinc (lo1 := [(9, .int x23), (0, .ref (zb g + a0)), (2, .int v2), (5, .int v5), (6, .int v6), (7, .int x4), (8, .int x9)]) C0 dX12_further_99 6 rfl (by decide) e_x23.symm (by decide) rfl ?_
        refine z_goto C0 45 dX12_further_102 (by decide) ?_
        refine z_sub (lo1 := [(0, .ref (zb g + a0)), (2, .int v2), (5, .int v5), (6, .int v6), (7, .int x4), (8, .int x9), (9, .int x23)]) [1, 2, 3, 4, 5, 6, 0] rfl ?_
        exact ih _ _ _ h kx
      · have h := e_μ22
        refine z_if_eq C0 99 dX12_further_84 (by decide) (fun c18 => ?_) (fun c18 => ?_)
        · have h := zif_t c18 h
          refine z_sub (lo1 := [(0, .ref (zb g + a0)), (2, .int v2), (5, .int v5), (6, .int v6), (7, .int x4), (8, .int x9), (9, .int y11)]) [1, 2, 3, 4, 5, 6, 7] rfl ?_
          obtain rfl := (Option.some.inj h)
          exact k_J19
        · have h := zif_f c18 h
          refine z_aload_n C0 dX12_further_87 rfl 1 rfl ?_
          refine z_getr C0 hU10 kf_12_17 zr_12_9 zx_12 (zs_12_9 hU10).1 dX12_further_88 ?_
          refine z_iload C0 dX12_further_91 6 rfl ?_
          refine z_iload C0 dX12_further_93 7 rfl ?_
          refine z_iadd C0 dX12_further_95 ?_
          refine z_iload C0 dX12_further_96 0 rfl ?_
          obtain ⟨g20, h⟩ := zg_of h
          obtain ⟨μ21, e_μ21, h⟩ := zl_of h
          refine z_iast C0 (zs_12_9 hU10).2 g20 rfl e_μ21 dX12_further_98 ?_
          refine z_sub (lo1 := [(0, .ref (zb g + a0)), (2, .int v2), (5, .int v5), (6, .int v6), (7, .int x4), (8, .int x9), (9, .int y11)]) [1, 2, 3, 4, 5, 6, 7] rfl ?_
          obtain rfl := (Option.some.inj h)
          exact k_J19
set_option maxHeartbeats 4000000 in
set_option maxRecDepth 100000 in
theorem r_X12_further {l : Launch} {g : zL} {κ : zK} (a0 : Nat) (v1 : Int32) (v2 : Int32) (v3 : Int32) (v4 : Int32) (v5 : Int32) (v6 : Int32) (μ : zM) (hT0 : zT zNN zσ1 a0 12) (hSp : zSK g κ) {μr : zM} (h : f_X12_further a0 v1 v2 v3 v4 v5 v6 μ = some μr) : zMet l g yX12_further cX12_further 11 none 6 0 0 zNN zNN zσ1 zσ1 [.ref (zb g + a0), .int v1, .int v2, .int v3, .int v4, .int v5, .int v6] μ none μr := by
  refine zMet.of (by decide +kernel) (Nat.le_of_ble_eq_true rfl) ?_
  intro p e s m args below meth c C0
  have hF := hSp.at C0
  refine z_loc (lo1 := [(0, .ref (zb g + a0)), (1, .int v1), (2, .int v2), (3, .int v3), (4, .int v4), (5, .int v5), (6, .int v6)]) rfl ?_
  unfold f_X12_further at h
  refine z_aload_n C0 dX12_further_0 rfl 0 rfl ?_
  refine z_getr C0 hT0 kf_12_17 zr_12_9 zx_12 (zs_12_9 hT0).1 dX12_further_1 ?_
  refine z_iload_n C0 dX12_further_4 rfl 2 rfl ?_
  obtain ⟨g1, h⟩ := zg_of h
  refine z_iald C0 (zs_12_9 hT0).2 g1 rfl dX12_further_5 ?_
  refine z_iload_n C0 dX12_further_6 rfl 3 rfl ?_
  obtain ⟨x4, e_x4, h⟩ := zl_of h
  refine z_join μ 15 [(0, .ref (zb g + a0)), (1, .int v1), (2, .int v2), (4, .int v4), (5, .int v5), (6, .int v6)] [.int x4] ?_ (fun k_J3 => ?_)
  · refine z_istore (lo1 := [(7, .int x4), (0, .ref (zb g + a0)), (1, .int v1), (2, .int v2), (4, .int v4), (5, .int v5), (6, .int v6)]) C0 dX12_further_15 (by decide) rfl ?_
    refine z_iload C0 dX12_further_17 0 rfl ?_
    obtain ⟨μ8, e_μ8, h⟩ := zl_of h
    refine z_join μ8 28 [(0, .ref (zb g + a0)), (2, .int v2), (4, .int v4), (5, .int v5), (6, .int v6), (7, .int x4)] [] ?_ (fun k_J6 => ?_)
    · refine z_iload C0 dX12_further_28 2 rfl ?_
      refine z_iload C0 dX12_further_30 3 rfl ?_
      refine z_aload_n C0 dX12_further_32 rfl 0 rfl ?_
      refine z_getr C0 hT0 kf_12_17 zr_12_9 zx_12 (zs_12_9 hT0).1 dX12_further_33 ?_
      refine z_iload_n C0 dX12_further_36 rfl 1 rfl ?_
      refine z_iald C0 (zs_12_9 hT0).2 g1 rfl dX12_further_37 ?_
      refine z_imul C0 dX12_further_38 ?_
      refine z_iadd C0 dX12_further_39 ?_
      obtain ⟨x9, e_x9, h⟩ := zl_of h
      refine z_nm e_x9 ?_
      refine z_istore (lo1 := [(8, .int x9), (0, .ref (zb g + a0)), (2, .int v2), (4, .int v4), (5, .int v5), (6, .int v6), (7, .int x4)]) C0 dX12_further_40 (by decide) rfl ?_
      refine z_iconst (v := (0 : Int32)) C0 dX12_further_42 (by decide) ?_
      refine z_istore (lo1 := [(9, .int (0 : Int32)), (8, .int x9), (0, .ref (zb g + a0)), (2, .int v2), (4, .int v4), (5, .int v5), (6, .int v6), (7, .int x4)]) C0 dX12_further_43 (by decide) rfl ?_
      refine z_sub (lo1 := [(0, .ref (zb g + a0)), (2, .int v2), (5, .int v5), (6, .int v6), (7, .int x4), (8, .int x9), (9, .int (0 : Int32))]) [2, 3, 5, 6, 7, 1, 0] rfl ?_
      obtain ⟨μ24, e_μ24, h⟩ := zbd_of h
      refine r_X12_further_L45 C0 hSp a0 v2 v5 v6 x4 x9 hT0 zFU (0 : Int32) μ8 μ24 e_μ24 ?_
      refine z_iload C0 dX12_further_105 2 rfl ?_
      obtain ⟨μ28, e_μ28, h⟩ := zl_of h
      refine z_join μ28 120 [] [] ?_ (fun k_J26 => ?_)
      · have h := Option.some.inj h
        obtain rfl := h
        exact z_vret C0 rfl dX12_further_120
      · have h := e_μ28.symm
        refine z_if_eq C0 120 dX12_further_107 (by decide) (fun c25 => ?_) (fun c25 => ?_)
        · have h := zif_t c25 h
          refine z_sub (lo1 := []) [] rfl ?_
          obtain rfl := h
          exact k_J26
        · have h := zif_f c25 h
          refine z_aload_n C0 dX12_further_110 rfl 0 rfl ?_
          refine z_getr C0 hT0 kf_12_17 zr_12_9 zx_12 (zs_12_9 hT0).1 dX12_further_111 ?_
          refine z_iload_n C0 dX12_further_114 rfl 1 rfl ?_
          refine z_dup2 C0 dX12_further_115 rfl rfl ?_
          refine z_iald C0 (zs_12_9 hT0).2 g1 rfl dX12_further_116 ?_
          refine z_iconst (v := (1 : Int32)) C0 dX12_further_117 (by decide) ?_
          refine z_iadd C0 dX12_further_118 ?_
          obtain ⟨μ27, e_μ27, h⟩ := zl_of h
          refine z_iast C0 (zs_12_9 hT0).2 g1 rfl e_μ27 dX12_further_119 ?_
          refine z_sub (lo1 := []) [] rfl ?_
          obtain rfl := h
          exact k_J26
    · have h := e_μ8.symm
      refine z_if_ne C0 28 dX12_further_19 (by decide) (fun c5 => ?_) (fun c5 => ?_)
      · have h := zif_t c5 h
        refine z_sub (lo1 := [(0, .ref (zb g + a0)), (2, .int v2), (4, .int v4), (5, .int v5), (6, .int v6), (7, .int x4)]) [1, 3, 4, 5, 6, 0] rfl ?_
        obtain rfl := h
        exact k_J6
      · have h := zif_f (fun q => q c5) h
        refine z_aload_n C0 dX12_further_22 rfl 1 rfl ?_
        refine z_iconst (v := (3 : Int32)) C0 dX12_further_23 (by decide) ?_
        refine z_iload_n C0 dX12_further_24 rfl 2 rfl ?_
        obtain ⟨μ7, e_μ7, h⟩ := zl_of h
        refine z_callV (As := [.int (3 : Int32), .int v1]) (rest := []) C0 rfl kc_X12_also km_RX12_113 (r_X12_also (l := l) (g := g) a0 (3 : Int32) v1 μ hT0 e_μ7.symm) hT0.1 hT0.2.2.1 rfl (by decide) rfl (Nat.le_of_ble_eq_true rfl) (Nat.le_of_ble_eq_true rfl) (Nat.le_of_ble_eq_true rfl) (Nat.le_of_ble_eq_true rfl) (Nat.le_refl _) rfl rfl dX12_further_25 ?_
        refine z_sub (lo1 := [(0, .ref (zb g + a0)), (2, .int v2), (4, .int v4), (5, .int v5), (6, .int v6), (7, .int x4)]) [1, 3, 4, 5, 6, 0] rfl ?_
        obtain rfl := h
        exact k_J6
  · have h := e_x4.symm
    refine z_icmp_ge C0 14 dX12_further_7 (by decide) (fun c2 => ?_) (fun c2 => ?_)
    · have h := zif_t c2 h
      refine z_iconst (v := (0 : Int32)) C0 dX12_further_14 (by decide) ?_
      refine z_sub (lo1 := [(0, .ref (zb g + a0)), (1, .int v1), (2, .int v2), (4, .int v4), (5, .int v5), (6, .int v6)]) [0, 1, 2, 4, 5, 6] rfl ?_
      obtain rfl := h
      exact k_J3
    · have h := zif_f c2 h
      refine z_iconst (v := (1 : Int32)) C0 dX12_further_10 (by decide) ?_
      refine z_goto C0 15 dX12_further_11 (by decide) ?_
      refine z_sub (lo1 := [(0, .ref (zb g + a0)), (1, .int v1), (2, .int v2), (4, .int v4), (5, .int v5), (6, .int v6)]) [0, 1, 2, 4, 5, 6] rfl ?_
      obtain rfl := h
      exact k_J3
def f_X12_puts_L2 (a0 : Nat) (v1 : Int32) (v2 : Int32) : Nat → Int32 → zM → Option (zM)
  | 0, _, _ => none
  | n + 1, y2, μ3 =>
    zbd (f_X12_mourners a0 μ3) fun r4 =>
    if r4 ≤ y2 then
      some μ3
    else
      zbd (f_X12_ofMourner a0 y2 (2 : Int32) μ3) fun r10 =>
      zbd (if ¬ r10 = v1 then
          some μ3
        else
          zbd (if ¬ v2 = 0 then
              if ¬ v2 = (1 : Int32) then
                zbd (f_X12_of a0 (2 : Int32) μ3) fun r17 =>
                some (r17 - (1 : Int32))
              else
                some (0 : Int32)
            else
              some (-1 : Int32)) fun x18 =>
          zg (zin y2 5) <|
          zl (zup μ3 (a0 + 4) (y2.toNatClampNeg) x18) fun μ20 =>
          some μ20) fun μ21 =>
      zl (y2 + (1 : Int32)) fun x22 =>
      f_X12_puts_L2 a0 v1 v2 n x22 μ21
def f_X12_puts (a0 : Nat) (v1 : Int32) (v2 : Int32) (μ : zM) : Option (zM) :=
  zbd (f_X12_puts_L2 a0 v1 v2 zFU (0 : Int32) μ) fun μ23 =>
  some μ23
set_option maxHeartbeats 4000000 in
set_option maxRecDepth 100000 in
theorem r_X12_puts_L2 {l : Launch} {g : zL} {p : Program} {e : Env} {s : State} {m : MethodId} {args : Array Value} {below : List Frame} {meth : Method} {c : Code} {Q : State → Prop} (C0 : zC p s m args meth c g cX12_puts yX12_puts 4 none) (a0 : Nat) (v1 : Int32) (v2 : Int32) (hU1 : zT zNN zσ1 a0 12) : ∀ (n : Nat) (y2 : Int32) (μ3 : zM) (μ23 : zM), f_X12_puts_L2 a0 v1 v2 n y2 μ3 = some μ23 → Z p l e (zrm 2 0 0) s m args below meth c g Q 4 zNN 0 0 zσ1 μ23 56 [] [] → Z p l e (zrm 2 0 0) s m args below meth c g Q 4 zNN 0 0 zσ1 μ3 2 [(0, .ref (zb g + a0)), (1, .int v1), (2, .int v2), (3, .int y2)] [] := by
  intro n
  induction n with
  | zero =>
    intro y2 μ3 μ23 h kx
    rw [f_X12_puts_L2] at h
    cases h
  | succ n ih =>
    intro y2 μ3 μ23 h kx
    rw [f_X12_puts_L2] at h
    refine z_iload_n C0 dX12_puts_2 rfl 3 rfl ?_
    refine z_aload_n C0 dX12_puts_3 rfl 0 rfl ?_
    obtain ⟨r4, e_r4, h⟩ := zbd_of h
    refine z_callV (As := []) (rest := [.int y2]) C0 rfl kc_X12_mourners km_RX12_183 (r_X12_mourners (l := l) (g := g) a0 μ3 hU1 e_r4) hU1.1 hU1.2.2.1 rfl (by decide) rfl (Nat.le_of_ble_eq_true rfl) (Nat.le_of_ble_eq_true rfl) (Nat.le_of_ble_eq_true rfl) (Nat.le_of_ble_eq_true rfl) (Nat.le_refl _) rfl rfl dX12_puts_4 ?_
    refine z_icmp_ge C0 56 dX12_puts_7 (by decide) (fun c5 => ?_) (fun c5 => ?_)
    · have h := zif_t c5 h
      refine z_sub (lo1 := []) [] rfl ?_
      obtain rfl := (Option.some.inj h)
      exact kx
    · have h := zif_f c5 h
      refine z_aload_n C0 dX12_puts_10 rfl 0 rfl ?_
      refine z_iload_n C0 dX12_puts_11 rfl 3 rfl ?_
      refine z_iconst (v := (2 : Int32)) C0 dX12_puts_12 (by decide) ?_
      obtain ⟨r10, e_r10, h⟩ := zbd_of h
      refine z_callV (As := [.int y2, .int (2 : Int32)]) (rest := []) C0 rfl kc_X12_ofMourner km_RX12_189 (r_X12_ofMourner (l := l) (g := g) a0 y2 (2 : Int32) μ3 hU1 e_r10) hU1.1 hU1.2.2.1 rfl (by decide) rfl (Nat.le_of_ble_eq_true rfl) (Nat.le_of_ble_eq_true rfl) (Nat.le_of_ble_eq_true rfl) (Nat.le_of_ble_eq_true rfl) (Nat.le_refl _) rfl rfl dX12_puts_13 ?_
      refine z_iload_n C0 dX12_puts_16 rfl 1 rfl ?_
      obtain ⟨μ21, e_μ21, h⟩ := zbd_of h
      refine z_join μ21 50 [(0, .ref (zb g + a0)), (1, .int v1), (2, .int v2), (3, .int y2)] [] ?_ (fun k_J12 => ?_)
      · obtain ⟨x22, e_x22, h⟩ := zl_of h
        refine z_iinc (lo1 := [(3, .int x22), (0, .ref (zb g + a0)), (1, .int v1), (2, .int v2)]) C0 dX12_puts_50 3 rfl (by decide) e_x22.symm (by decide) rfl ?_
        refine z_goto C0 2 dX12_puts_53 (by decide) ?_
        refine z_sub (lo1 := [(0, .ref (zb g + a0)), (1, .int v1), (2, .int v2), (3, .int x22)]) [1, 2, 3, 0] rfl ?_
        exact ih _ _ _ h kx
      · have h := e_μ21
        refine z_icmp_ne C0 50 dX12_puts_17 (by decide) (fun c11 => ?_) (fun c11 => ?_)
        · have h := zif_t c11 h
          obtain rfl := (Option.some.inj h)
          exact k_J12
        · have h := zif_f (fun q => q c11) h
          refine z_aload_n C0 dX12_puts_20 rfl 0 rfl ?_
          refine z_getr C0 hU1 kf_12_20 zr_12_23 zx_12 (zs_12_23 hU1).1 dX12_puts_21 ?_
          refine z_iload_n C0 dX12_puts_24 rfl 3 rfl ?_
          refine z_iload_n C0 dX12_puts_25 rfl 2 rfl ?_
          obtain ⟨x18, e_x18, h⟩ := zbd_of h
          refine z_join μ3 49 [(0, .ref (zb g + a0)), (1, .int v1), (2, .int v2), (3, .int y2)] [.int x18, .int y2, .ref (zb g + (a0 + 4))] ?_ (fun k_J15 => ?_)
          · obtain ⟨g19, h⟩ := zg_of h
            obtain ⟨μ20, e_μ20, h⟩ := zl_of h
            refine z_iast C0 (zs_12_23 hU1).2 g19 rfl e_μ20 dX12_puts_49 ?_
            obtain rfl := (Option.some.inj h)
            exact k_J12
          · have h := e_x18
            refine z_if_ne C0 33 dX12_puts_26 (by decide) (fun c13 => ?_) (fun c13 => ?_)
            · have h := zif_t c13 h
              refine z_iload_n C0 dX12_puts_33 rfl 2 rfl ?_
              refine z_iconst (v := (1 : Int32)) C0 dX12_puts_34 (by decide) ?_
              refine z_icmp_ne C0 42 dX12_puts_35 (by decide) (fun c16 => ?_) (fun c16 => ?_)
              · have h := zif_t c16 h
                refine z_aload_n C0 dX12_puts_42 rfl 0 rfl ?_
                refine z_iconst (v := (2 : Int32)) C0 dX12_puts_43 (by decide) ?_
                obtain ⟨r17, e_r17, h⟩ := zbd_of h
                refine z_callV (As := [.int (2 : Int32)]) (rest := [.int y2, .ref (zb g + (a0 + 4))]) C0 rfl kc_X12_of km_RX12_180 (r_X12_of (l := l) (g := g) a0 (2 : Int32) μ3 hU1 e_r17) hU1.1 hU1.2.2.1 rfl (by decide) rfl (Nat.le_of_ble_eq_true rfl) (Nat.le_of_ble_eq_true rfl) (Nat.le_of_ble_eq_true rfl) (Nat.le_of_ble_eq_true rfl) (Nat.le_refl _) rfl rfl dX12_puts_44 ?_
                refine z_iconst (v := (1 : Int32)) C0 dX12_puts_47 (by decide) ?_
                refine z_isub C0 dX12_puts_48 ?_
                obtain rfl := (Option.some.inj h)
                exact k_J15
              · have h := zif_f (fun q => q c16) h
                refine z_iconst (v := (0 : Int32)) C0 dX12_puts_38 (by decide) ?_
                refine z_goto C0 49 dX12_puts_39 (by decide) ?_
                obtain rfl := (Option.some.inj h)
                exact k_J15
            · have h := zif_f (fun q => q c13) h
              refine z_iconst (v := (-1 : Int32)) C0 dX12_puts_29 (by decide) ?_
              refine z_goto C0 49 dX12_puts_30 (by decide) ?_
              obtain rfl := (Option.some.inj h)
              exact k_J15
set_option maxHeartbeats 4000000 in
set_option maxRecDepth 100000 in
theorem r_X12_puts {l : Launch} {g : zL} (a0 : Nat) (v1 : Int32) (v2 : Int32) (μ : zM) (hT0 : zT zNN zσ1 a0 12) {μr : zM} (h : f_X12_puts a0 v1 v2 μ = some μr) : zMet l g yX12_puts cX12_puts 4 none 2 0 0 zNN zNN zσ1 zσ1 [.ref (zb g + a0), .int v1, .int v2] μ none μr := by
  refine zMet.of (by decide +kernel) (Nat.le_of_ble_eq_true rfl) ?_
  intro p e s m args below meth c C0
  refine z_loc (lo1 := [(0, .ref (zb g + a0)), (1, .int v1), (2, .int v2)]) rfl ?_
  unfold f_X12_puts at h
  refine z_iconst (v := (0 : Int32)) C0 dX12_puts_0 (by decide) ?_
  refine z_istore_n (lo1 := [(3, .int (0 : Int32)), (0, .ref (zb g + a0)), (1, .int v1), (2, .int v2)]) C0 dX12_puts_1 rfl (by decide) rfl ?_
  refine z_sub (lo1 := [(0, .ref (zb g + a0)), (1, .int v1), (2, .int v2), (3, .int (0 : Int32))]) [1, 2, 3, 0] rfl ?_
  obtain ⟨μ23, e_μ23, h⟩ := zbd_of h
  refine r_X12_puts_L2 C0 a0 v1 v2 hT0 zFU (0 : Int32) μ μ23 e_μ23 ?_
  have h := Option.some.inj h
  obtain rfl := h
  exact z_vret C0 rfl dX12_puts_56
def f_X12_gainOf_L23 (a0 : Nat) (v1 : Int32) (v3 : Int32) : Nat → Int32 → zM → Option (zM)
  | 0, _, _ => none
  | n + 1, y5, μ6 =>
    if v1 ≤ y5 then
      some μ6
    else
      zbd (f_X12_hour a0 (0 : Int32) μ6) fun μ8 =>
      zl (y5 + (1 : Int32)) fun x9 =>
      f_X12_gainOf_L23 a0 v1 v3 n x9 μ8
def f_X12_gainOf_L46 (a0 : Nat) (v1 : Int32) (v3 : Int32) (μ14 : zM) : Nat → Int32 → Int32 → Option (Int32)
  | 0, _, _ => none
  | n + 1, y12, y13 =>
    zbd (f_X12_mourners a0 μ14) fun r15 =>
    if r15 ≤ y13 then
      some y12
    else
      zbd (f_X12_ofMourner a0 y13 (2 : Int32) μ14) fun r17 =>
      zbd (zbd (if ¬ r17 = v3 then
            some false
          else
            zg (zin y13 5) <|
            if (μ14 (a0 + 4) (y13.toNatClampNeg)) = (-1 : Int32) then
              some false
            else
              some true) fun b22 =>
        if b22 = true then
          zbd (f_X12_ofMourner a0 y13 (1 : Int32) μ14) fun r24 =>
          some r24
        else
          some (0 : Int32)) fun x25 =>
      zl (y12 + x25) fun x26 =>
      zl (y13 + (1 : Int32)) fun x27 =>
      f_X12_gainOf_L46 a0 v1 v3 μ14 n x26 x27
def f_X12_gainOf (a0 : Nat) (v1 : Int32) (v2 : Int32) (v3 : Int32) (μ : zM) : Option (Int32 × zM) :=
  zbd (f_X12_begins a0 μ) fun μ1 =>
  zbd (f_X12_puts a0 (0 : Int32) (v2 / (3 : Int32)) μ1) fun μ2 =>
  zbd (f_X12_puts a0 (1 : Int32) (v2 % (3 : Int32)) μ2) fun μ3 =>
  zbd (f_X12_gainOf_L23 a0 v1 v3 zFU (0 : Int32) μ3) fun μ10 =>
  zbd (f_X12_gainOf_L46 a0 v1 v3 μ10 zFU (0 : Int32) (0 : Int32)) fun x28 =>
  zbd (f_X12_of a0 (4 : Int32) μ10) fun r29 =>
  zl ((μ10 a0 12) - r29) fun x30 =>
  zl (if ¬ v3 = (1 : Int32) then
      (-x30)
    else
      x30) fun x33 =>
  some ((((10 : Int32) * x33) - (x28 * v1)), μ10)
set_option maxHeartbeats 4000000 in
set_option maxRecDepth 100000 in
theorem r_X12_gainOf_L23 {l : Launch} {g : zL} {p : Program} {e : Env} {s : State} {m : MethodId} {args : Array Value} {below : List Frame} {meth : Method} {c : Code} {Q : State → Prop} (C0 : zC p s m args meth c g cX12_gainOf yX12_gainOf 6 (some (.int))) (a0 : Nat) (v1 : Int32) (v3 : Int32) (hU4 : zT zNN zσ1 a0 12) : ∀ (n : Nat) (y5 : Int32) (μ6 : zM) (μ10 : zM), f_X12_gainOf_L23 a0 v1 v3 n y5 μ6 = some μ10 → Z p l e (zrm 6 0 0) s m args below meth c g Q 6 zNN 0 0 zσ1 μ10 40 [(0, .ref (zb g + a0)), (1, .int v1), (3, .int v3)] [] → Z p l e (zrm 6 0 0) s m args below meth c g Q 6 zNN 0 0 zσ1 μ6 23 [(0, .ref (zb g + a0)), (1, .int v1), (3, .int v3), (4, .int y5)] [] := by
  intro n
  induction n with
  | zero =>
    intro y5 μ6 μ10 h kx
    rw [f_X12_gainOf_L23] at h
    cases h
  | succ n ih =>
    intro y5 μ6 μ10 h kx
    rw [f_X12_gainOf_L23] at h
    refine z_iload C0 dX12_gainOf_23 3 rfl ?_
    refine z_iload_n C0 dX12_gainOf_25 rfl 1 rfl ?_
    refine z_icmp_ge C0 40 dX12_gainOf_26 (by decide) (fun c7 => ?_) (fun c7 => ?_)
    · have h := zif_t c7 h
      refine z_sub (lo1 := [(0, .ref (zb g + a0)), (1, .int v1), (3, .int v3)]) [0, 1, 2] rfl ?_
      obtain rfl := (Option.some.inj h)
      exact kx
    · have h := zif_f c7 h
      refine z_aload_n C0 dX12_gainOf_29 rfl 0 rfl ?_
      refine z_iconst (v := (0 : Int32)) C0 dX12_gainOf_30 (by decide) ?_
      obtain ⟨μ8, e_μ8, h⟩ := zbd_of h
      refine z_callV (As := [.int (0 : Int32)]) (rest := []) C0 rfl kc_X12_hour km_RX12_291 (r_X12_hour (l := l) (g := g) a0 (0 : Int32) μ6 hU4 e_μ8) hU4.1 hU4.2.2.1 rfl (by decide) rfl (Nat.le_of_ble_eq_true rfl) (Nat.le_of_ble_eq_true rfl) (Nat.le_of_ble_eq_true rfl) (Nat.le_of_ble_eq_true rfl) (Nat.le_refl _) rfl rfl dX12_gainOf_31 ?_
      obtain ⟨x9, e_x9, h⟩ := zl_of h
      refine z_iinc (lo1 := [(4, .int x9), (0, .ref (zb g + a0)), (1, .int v1), (3, .int v3)]) C0 dX12_gainOf_34 3 rfl (by decide) e_x9.symm (by decide) rfl ?_
      refine z_goto C0 23 dX12_gainOf_37 (by decide) ?_
      refine z_sub (lo1 := [(0, .ref (zb g + a0)), (1, .int v1), (3, .int v3), (4, .int x9)]) [1, 2, 3, 0] rfl ?_
      exact ih _ _ _ h kx
set_option maxHeartbeats 4000000 in
set_option maxRecDepth 100000 in
theorem r_X12_gainOf_L46 {l : Launch} {g : zL} {p : Program} {e : Env} {s : State} {m : MethodId} {args : Array Value} {below : List Frame} {meth : Method} {c : Code} {Q : State → Prop} (C0 : zC p s m args meth c g cX12_gainOf yX12_gainOf 6 (some (.int))) (a0 : Nat) (v1 : Int32) (v3 : Int32) (μ14 : zM) (hU11 : zT zNN zσ1 a0 12) : ∀ (n : Nat) (y12 : Int32) (y13 : Int32) (x28 : Int32), f_X12_gainOf_L46 a0 v1 v3 μ14 n y12 y13 = some x28 → Z p l e (zrm 6 0 0) s m args below meth c g Q 6 zNN 0 0 zσ1 μ14 99 [(0, .ref (zb g + a0)), (1, .int v1), (3, .int v3), (4, .int x28)] [] → Z p l e (zrm 6 0 0) s m args below meth c g Q 6 zNN 0 0 zσ1 μ14 46 [(0, .ref (zb g + a0)), (1, .int v1), (3, .int v3), (4, .int y12), (5, .int y13)] [] := by
  intro n
  induction n with
  | zero =>
    intro y12 y13 x28 h kx
    rw [f_X12_gainOf_L46] at h
    cases h
  | succ n ih =>
    intro y12 y13 x28 h kx
    rw [f_X12_gainOf_L46] at h
    refine z_iload C0 dX12_gainOf_46 4 rfl ?_
    refine z_aload_n C0 dX12_gainOf_48 rfl 0 rfl ?_
    obtain ⟨r15, e_r15, h⟩ := zbd_of h
    refine z_callV (As := []) (rest := [.int y13]) C0 rfl kc_X12_mourners km_RX12_183 (r_X12_mourners (l := l) (g := g) a0 μ14 hU11 e_r15) hU11.1 hU11.2.2.1 rfl (by decide) rfl (Nat.le_of_ble_eq_true rfl) (Nat.le_of_ble_eq_true rfl) (Nat.le_of_ble_eq_true rfl) (Nat.le_of_ble_eq_true rfl) (Nat.le_refl _) rfl rfl dX12_gainOf_49 ?_
    refine z_icmp_ge C0 99 dX12_gainOf_52 (by decide) (fun c16 => ?_) (fun c16 => ?_)
    · have h := zif_t c16 h
      refine z_sub (lo1 := [(0, .ref (zb g + a0)), (1, .int v1), (3, .int v3), (4, .int y12)]) [0, 1, 2, 3] rfl ?_
      obtain rfl := (Option.some.inj h)
      exact kx
    · have h := zif_f c16 h
      refine z_iload C0 dX12_gainOf_55 3 rfl ?_
      refine z_aload_n C0 dX12_gainOf_57 rfl 0 rfl ?_
      refine z_iload C0 dX12_gainOf_58 4 rfl ?_
      refine z_iconst (v := (2 : Int32)) C0 dX12_gainOf_60 (by decide) ?_
      obtain ⟨r17, e_r17, h⟩ := zbd_of h
      refine z_callV (As := [.int y13, .int (2 : Int32)]) (rest := [.int y12]) C0 rfl kc_X12_ofMourner km_RX12_189 (r_X12_ofMourner (l := l) (g := g) a0 y13 (2 : Int32) μ14 hU11 e_r17) hU11.1 hU11.2.2.1 rfl (by decide) rfl (Nat.le_of_ble_eq_true rfl) (Nat.le_of_ble_eq_true rfl) (Nat.le_of_ble_eq_true rfl) (Nat.le_of_ble_eq_true rfl) (Nat.le_refl _) rfl rfl dX12_gainOf_61 ?_
      refine z_iload_n C0 dX12_gainOf_64 rfl 2 rfl ?_
      obtain ⟨x25, e_x25, h⟩ := zbd_of h
      refine z_join μ14 90 [(0, .ref (zb g + a0)), (1, .int v1), (3, .int v3), (5, .int y13)] [.int x25, .int y12] ?_ (fun k_J23 => ?_)
      · refine z_iadd C0 dX12_gainOf_90 ?_
        obtain ⟨x26, e_x26, h⟩ := zl_of h
        refine z_nm e_x26 ?_
        refine z_istore (lo1 := [(4, .int x26), (0, .ref (zb g + a0)), (1, .int v1), (3, .int v3), (5, .int y13)]) C0 dX12_gainOf_91 (by decide) rfl ?_
        obtain ⟨x27, e_x27, h⟩ := zl_of h
        refine z_iinc (lo1 := [(5, .int x27), (4, .int x26), (0, .ref (zb g + a0)), (1, .int v1), (3, .int v3)]) C0 dX12_gainOf_93 4 rfl (by decide) e_x27.symm (by decide) rfl ?_
        refine z_goto C0 46 dX12_gainOf_96 (by decide) ?_
        refine z_sub (lo1 := [(0, .ref (zb g + a0)), (1, .int v1), (3, .int v3), (4, .int x26), (5, .int x27)]) [2, 3, 4, 1, 0] rfl ?_
        exact ih _ _ _ h kx
      · have h := e_x25
        obtain ⟨b22, e_b22, h⟩ := zbd_of h
        refine z_joinb b22 μ14 79 89 [(0, .ref (zb g + a0)), (1, .int v1), (3, .int v3), (4, .int y12), (5, .int y13)] [.int y12] (fun z36 => ?_) (fun z36 => ?_) (fun k34 k35 => ?_)
        · have h := zif_t z36 h
          refine z_aload_n C0 dX12_gainOf_79 rfl 0 rfl ?_
          refine z_iload C0 dX12_gainOf_80 4 rfl ?_
          refine z_iconst (v := (1 : Int32)) C0 dX12_gainOf_82 (by decide) ?_
          obtain ⟨r24, e_r24, h⟩ := zbd_of h
          refine z_callV (As := [.int y13, .int (1 : Int32)]) (rest := [.int y12]) C0 rfl kc_X12_ofMourner km_RX12_189 (r_X12_ofMourner (l := l) (g := g) a0 y13 (1 : Int32) μ14 hU11 e_r24) hU11.1 hU11.2.2.1 rfl (by decide) rfl (Nat.le_of_ble_eq_true rfl) (Nat.le_of_ble_eq_true rfl) (Nat.le_of_ble_eq_true rfl) (Nat.le_of_ble_eq_true rfl) (Nat.le_refl _) rfl rfl dX12_gainOf_83 ?_
          refine z_goto C0 90 dX12_gainOf_86 (by decide) ?_
          refine z_sub (lo1 := [(0, .ref (zb g + a0)), (1, .int v1), (3, .int v3), (5, .int y13)]) [0, 1, 2, 4] rfl ?_
          obtain rfl := (Option.some.inj h)
          exact k_J23
        · have h := zif_f (fun q => Bool.noConfusion (z36.symm.trans q)) h
          refine z_iconst (v := (0 : Int32)) C0 dX12_gainOf_89 (by decide) ?_
          refine z_sub (lo1 := [(0, .ref (zb g + a0)), (1, .int v1), (3, .int v3), (5, .int y13)]) [0, 1, 2, 4] rfl ?_
          obtain rfl := (Option.some.inj h)
          exact k_J23
        · have h := e_b22
          refine z_icmp_ne C0 89 dX12_gainOf_65 (by decide) (fun c18 => ?_) (fun c18 => ?_)
          · have h := zif_t c18 h
            exact k35 (Option.some.inj h).symm
          · have h := zif_f (fun q => q c18) h
            refine z_aload_n C0 dX12_gainOf_68 rfl 0 rfl ?_
            refine z_getr C0 hU11 kf_12_20 zr_12_23 zx_12 (zs_12_23 hU11).1 dX12_gainOf_69 ?_
            refine z_iload C0 dX12_gainOf_72 4 rfl ?_
            obtain ⟨g20, h⟩ := zg_of h
            refine z_iald C0 (zs_12_23 hU11).2 g20 rfl dX12_gainOf_74 ?_
            refine z_iconst (v := (-1 : Int32)) C0 dX12_gainOf_75 (by decide) ?_
            refine z_icmp_eq C0 89 dX12_gainOf_76 (by decide) (fun c21 => ?_) (fun c21 => ?_)
            · have h := zif_t c21 h
              exact k35 (Option.some.inj h).symm
            · have h := zif_f c21 h
              exact k34 (Option.some.inj h).symm
set_option maxHeartbeats 4000000 in
set_option maxRecDepth 100000 in
theorem r_X12_gainOf {l : Launch} {g : zL} (a0 : Nat) (v1 : Int32) (v2 : Int32) (v3 : Int32) (μ : zM) (hT0 : zT zNN zσ1 a0 12) {rv : Int32} {μr : zM} (h : f_X12_gainOf a0 v1 v2 v3 μ = some (rv, μr)) : zMet l g yX12_gainOf cX12_gainOf 6 (some (.int)) 6 0 0 zNN zNN zσ1 zσ1 [.ref (zb g + a0), .int v1, .int v2, .int v3] μ (some (.int rv)) μr := by
  refine zMet.of (by decide +kernel) (Nat.le_of_ble_eq_true rfl) ?_
  intro p e s m args below meth c C0
  refine z_loc (lo1 := [(0, .ref (zb g + a0)), (1, .int v1), (2, .int v2), (3, .int v3)]) rfl ?_
  unfold f_X12_gainOf at h
  refine z_aload_n C0 dX12_gainOf_0 rfl 0 rfl ?_
  obtain ⟨μ1, e_μ1, h⟩ := zbd_of h
  refine z_callV (As := []) (rest := []) C0 rfl kc_X12_begins km_RX12_295 (r_X12_begins (l := l) (g := g) a0 μ hT0 e_μ1) hT0.1 hT0.2.2.1 rfl (by decide) rfl (Nat.le_of_ble_eq_true rfl) (Nat.le_of_ble_eq_true rfl) (Nat.le_of_ble_eq_true rfl) (Nat.le_of_ble_eq_true rfl) (Nat.le_refl _) rfl rfl dX12_gainOf_1 ?_
  refine z_aload_n C0 dX12_gainOf_4 rfl 0 rfl ?_
  refine z_iconst (v := (0 : Int32)) C0 dX12_gainOf_5 (by decide) ?_
  refine z_iload_n C0 dX12_gainOf_6 rfl 2 rfl ?_
  refine z_iconst (v := (3 : Int32)) C0 dX12_gainOf_7 (by decide) ?_
  refine z_idiv C0 dX12_gainOf_8 (by decide) ?_
  obtain ⟨μ2, e_μ2, h⟩ := zbd_of h
  refine z_callV (As := [.int (0 : Int32), .int (v2 / (3 : Int32))]) (rest := []) C0 rfl kc_X12_puts km_RX12_357 (r_X12_puts (l := l) (g := g) a0 (0 : Int32) (v2 / (3 : Int32)) μ1 hT0 e_μ2) hT0.1 hT0.2.2.1 rfl (by decide) rfl (Nat.le_of_ble_eq_true rfl) (Nat.le_of_ble_eq_true rfl) (Nat.le_of_ble_eq_true rfl) (Nat.le_of_ble_eq_true rfl) (Nat.le_refl _) rfl rfl dX12_gainOf_9 ?_
  refine z_aload_n C0 dX12_gainOf_12 rfl 0 rfl ?_
  refine z_iconst (v := (1 : Int32)) C0 dX12_gainOf_13 (by decide) ?_
  refine z_iload_n C0 dX12_gainOf_14 rfl 2 rfl ?_
  refine z_iconst (v := (3 : Int32)) C0 dX12_gainOf_15 (by decide) ?_
  refine z_irem C0 dX12_gainOf_16 (by decide) ?_
  obtain ⟨μ3, e_μ3, h⟩ := zbd_of h
  refine z_callV (As := [.int (1 : Int32), .int (v2 % (3 : Int32))]) (rest := []) C0 rfl kc_X12_puts km_RX12_357 (r_X12_puts (l := l) (g := g) a0 (1 : Int32) (v2 % (3 : Int32)) μ2 hT0 e_μ3) hT0.1 hT0.2.2.1 rfl (by decide) rfl (Nat.le_of_ble_eq_true rfl) (Nat.le_of_ble_eq_true rfl) (Nat.le_of_ble_eq_true rfl) (Nat.le_of_ble_eq_true rfl) (Nat.le_refl _) rfl rfl dX12_gainOf_17 ?_
  refine z_iconst (v := (0 : Int32)) C0 dX12_gainOf_20 (by decide) ?_
  refine z_istore (lo1 := [(4, .int (0 : Int32)), (0, .ref (zb g + a0)), (1, .int v1), (2, .int v2), (3, .int v3)]) C0 dX12_gainOf_21 (by decide) rfl ?_
  refine z_sub (lo1 := [(0, .ref (zb g + a0)), (1, .int v1), (3, .int v3), (4, .int (0 : Int32))]) [1, 2, 4, 0] rfl ?_
  obtain ⟨μ10, e_μ10, h⟩ := zbd_of h
  refine r_X12_gainOf_L23 C0 a0 v1 v3 hT0 zFU (0 : Int32) μ3 μ10 e_μ10 ?_
  refine z_iconst (v := (0 : Int32)) C0 dX12_gainOf_40 (by decide) ?_
  refine z_istore (lo1 := [(4, .int (0 : Int32)), (0, .ref (zb g + a0)), (1, .int v1), (3, .int v3)]) C0 dX12_gainOf_41 (by decide) rfl ?_
  refine z_iconst (v := (0 : Int32)) C0 dX12_gainOf_43 (by decide) ?_
  refine z_istore (lo1 := [(5, .int (0 : Int32)), (4, .int (0 : Int32)), (0, .ref (zb g + a0)), (1, .int v1), (3, .int v3)]) C0 dX12_gainOf_44 (by decide) rfl ?_
  refine z_sub (lo1 := [(0, .ref (zb g + a0)), (1, .int v1), (3, .int v3), (4, .int (0 : Int32)), (5, .int (0 : Int32))]) [2, 3, 4, 1, 0] rfl ?_
  obtain ⟨x28, e_x28, h⟩ := zbd_of h
  refine r_X12_gainOf_L46 C0 a0 v1 v3 μ10 hT0 zFU (0 : Int32) (0 : Int32) x28 e_x28 ?_
  refine z_aload_n C0 dX12_gainOf_99 rfl 0 rfl ?_
  refine z_geti C0 hT0.1 hT0.2.2.1 kf_12_218 zr_12_12 dX12_gainOf_100 ?_
  refine z_aload_n C0 dX12_gainOf_103 rfl 0 rfl ?_
  refine z_iconst (v := (4 : Int32)) C0 dX12_gainOf_104 (by decide) ?_
  obtain ⟨r29, e_r29, h⟩ := zbd_of h
  refine z_callV (As := [.int (4 : Int32)]) (rest := [.int (μ10 a0 12)]) C0 rfl kc_X12_of km_RX12_180 (r_X12_of (l := l) (g := g) a0 (4 : Int32) μ10 hT0 e_r29) hT0.1 hT0.2.2.1 rfl (by decide) rfl (Nat.le_of_ble_eq_true rfl) (Nat.le_of_ble_eq_true rfl) (Nat.le_of_ble_eq_true rfl) (Nat.le_of_ble_eq_true rfl) (Nat.le_refl _) rfl rfl dX12_gainOf_105 ?_
  refine z_isub C0 dX12_gainOf_108 ?_
  obtain ⟨x30, e_x30, h⟩ := zl_of h
  refine z_nm e_x30 ?_
  refine z_istore (lo1 := [(5, .int x30), (0, .ref (zb g + a0)), (1, .int v1), (3, .int v3), (4, .int x28)]) C0 dX12_gainOf_109 (by decide) rfl ?_
  refine z_bipush (v := (10 : Int32)) C0 dX12_gainOf_111 (by decide) ?_
  refine z_iload_n C0 dX12_gainOf_113 rfl 3 rfl ?_
  refine z_iconst (v := (1 : Int32)) C0 dX12_gainOf_114 (by decide) ?_
  obtain ⟨x33, e_x33, h⟩ := zl_of h
  refine z_join μ10 126 [(1, .int v1), (4, .int x28)] [.int x33, .int (10 : Int32)] ?_ (fun k_J32 => ?_)
  · refine z_imul C0 dX12_gainOf_126 ?_
    refine z_iload C0 dX12_gainOf_127 1 rfl ?_
    refine z_iload_n C0 dX12_gainOf_129 rfl 0 rfl ?_
    refine z_imul C0 dX12_gainOf_130 ?_
    refine z_isub C0 dX12_gainOf_131 ?_
    have h := Option.some.inj h
    obtain ⟨rfl, rfl⟩ := Prod.mk.inj h
    exact z_iret C0 rfl dX12_gainOf_132
  · have h := e_x33.symm
    refine z_icmp_ne C0 123 dX12_gainOf_115 (by decide) (fun c31 => ?_) (fun c31 => ?_)
    · have h := zif_t c31 h
      refine z_iload C0 dX12_gainOf_123 0 rfl ?_
      refine z_ineg C0 dX12_gainOf_125 ?_
      refine z_sub (lo1 := [(1, .int v1), (4, .int x28)]) [2, 4] rfl ?_
      obtain rfl := h
      exact k_J32
    · have h := zif_f (fun q => q c31) h
      refine z_iload C0 dX12_gainOf_118 0 rfl ?_
      refine z_goto C0 126 dX12_gainOf_120 (by decide) ?_
      refine z_sub (lo1 := [(1, .int v1), (4, .int x28)]) [2, 4] rfl ?_
      obtain rfl := h
      exact k_J32
def f_X12_gain (a0 : Nat) (v1 : Int32) (v2 : Int32) (v3 : Int32) (v4 : Int32) (μ : zM) : Option (Int32 × zM) :=
  zbd2 (f_X12_isLake a0 v1 μ) fun r1 μ2 =>
  zbd2 (if (¬ (r1 = 0)) ∧ ((¬ ((f_X12_isIn v2 (1 : Int32) (12 : Int32)) = 0)) ∧ ((¬ ((f_X12_isIn v3 (0 : Int32) (8 : Int32)) = 0)) ∧ (¬ ((f_X12_isIn v4 (0 : Int32) (1 : Int32)) = 0)))) then
      zbd2 (f_X12_gainOf a0 v2 v3 v4 μ2) fun r8 μ9 =>
      some (r8, μ9)
    else
      some ((-1000000 : Int32), μ2)) fun x10 μ11 =>
  some (x10, μ11)
set_option maxHeartbeats 4000000 in
set_option maxRecDepth 100000 in
theorem r_X12_gain {l : Launch} {g : zL} (a0 : Nat) (v1 : Int32) (v2 : Int32) (v3 : Int32) (v4 : Int32) (μ : zM) (hT0 : zT zNN zσ1 a0 12) {rv : Int32} {μr : zM} (h : f_X12_gain a0 v1 v2 v3 v4 μ = some (rv, μr)) : zMet l g yX12_gain cX12_gain 5 (some (.int)) 7 0 0 zNN zNN zσ1 zσ1 [.ref (zb g + a0), .int v1, .int v2, .int v3, .int v4] μ (some (.int rv)) μr := by
  refine zMet.of (by decide +kernel) (Nat.le_of_ble_eq_true rfl) ?_
  intro p e s m args below meth c C0
  refine z_loc (lo1 := [(0, .ref (zb g + a0)), (1, .int v1), (2, .int v2), (3, .int v3), (4, .int v4)]) rfl ?_
  unfold f_X12_gain at h
  refine z_aload_n C0 dX12_gain_0 rfl 0 rfl ?_
  refine z_iload_n C0 dX12_gain_1 rfl 1 rfl ?_
  obtain ⟨r1, μ2, e_r1, h⟩ := zbd2_of h
  refine z_callV (As := [.int v1]) (rest := []) C0 rfl kc_X12_isLake km_RX12_186 (r_X12_isLake (l := l) (g := g) a0 v1 μ hT0 e_r1) hT0.1 hT0.2.2.1 rfl (by decide) rfl (Nat.le_of_ble_eq_true rfl) (Nat.le_of_ble_eq_true rfl) (Nat.le_of_ble_eq_true rfl) (Nat.le_of_ble_eq_true rfl) (Nat.le_refl _) rfl rfl dX12_gain_2 ?_
  obtain ⟨x10, μ11, e_x10, h⟩ := zbd2_of h
  refine z_join μ11 52 [] [.int x10] ?_ (fun k_J7 => ?_)
  · have h := Option.some.inj h
    obtain ⟨rfl, rfl⟩ := Prod.mk.inj h
    exact z_iret C0 rfl dX12_gain_52
  · have h := e_x10
    by_cases hc12 : (¬ (r1 = 0)) ∧ ((¬ ((f_X12_isIn v2 (1 : Int32) (12 : Int32)) = 0)) ∧ ((¬ ((f_X12_isIn v3 (0 : Int32) (8 : Int32)) = 0)) ∧ (¬ ((f_X12_isIn v4 (0 : Int32) (1 : Int32)) = 0))))
    · have h := zif_t hc12 h
      refine z_join μ2 38 [(0, .ref (zb g + a0)), (1, .int v1), (2, .int v2), (3, .int v3), (4, .int v4)] [] ?_ (fun k13 => ?_)
      · refine z_aload_n C0 dX12_gain_38 rfl 0 rfl ?_
        refine z_iload_n C0 dX12_gain_39 rfl 2 rfl ?_
        refine z_iload_n C0 dX12_gain_40 rfl 3 rfl ?_
        refine z_iload C0 dX12_gain_41 4 rfl ?_
        obtain ⟨r8, μ9, e_r8, h⟩ := zbd2_of h
        refine z_callV (As := [.int v2, .int v3, .int v4]) (rest := []) C0 rfl kc_X12_gainOf km_RX12_360 (r_X12_gainOf (l := l) (g := g) a0 v2 v3 v4 μ2 hT0 e_r8) hT0.1 hT0.2.2.1 rfl (by decide) rfl (Nat.le_of_ble_eq_true rfl) (Nat.le_of_ble_eq_true rfl) (Nat.le_of_ble_eq_true rfl) (Nat.le_of_ble_eq_true rfl) (Nat.le_refl _) rfl rfl dX12_gain_43 ?_
        refine z_goto C0 52 dX12_gain_46 (by decide) ?_
        refine z_sub (lo1 := []) [] rfl ?_
        obtain ⟨rfl, rfl⟩ := Prod.mk.inj (Option.some.inj h)
        exact k_J7
      · refine z_if_eq C0 49 dX12_gain_5 (by decide) (fun c3 => ?_) (fun c3 => ?_)
        · exact absurd hc12 (fun q => q.1 c3)
        · refine z_iload_n C0 dX12_gain_8 rfl 2 rfl ?_
          refine z_iconst (v := (1 : Int32)) C0 dX12_gain_9 (by decide) ?_
          refine z_bipush (v := (12 : Int32)) C0 dX12_gain_10 (by decide) ?_
          refine z_callS (As := [.int v2, .int (1 : Int32), .int (12 : Int32)]) (rest := []) C0 rfl kc_X12_isIn km_RX12_109 (r_X12_isIn (l := l) (g := g) (μ := μ2) v2 (1 : Int32) (12 : Int32) rfl) rfl (Nat.le_of_ble_eq_true rfl) (Nat.le_of_ble_eq_true rfl) (Nat.le_of_ble_eq_true rfl) (Nat.le_of_ble_eq_true rfl) (Nat.le_refl _) rfl rfl dX12_gain_12 ?_
          refine z_if_eq C0 49 dX12_gain_15 (by decide) (fun c4 => ?_) (fun c4 => ?_)
          · exact absurd hc12 (fun q => (fun q => q.1 c4) q.2)
          · refine z_iload_n C0 dX12_gain_18 rfl 3 rfl ?_
            refine z_iconst (v := (0 : Int32)) C0 dX12_gain_19 (by decide) ?_
            refine z_bipush (v := (8 : Int32)) C0 dX12_gain_20 (by decide) ?_
            refine z_callS (As := [.int v3, .int (0 : Int32), .int (8 : Int32)]) (rest := []) C0 rfl kc_X12_isIn km_RX12_109 (r_X12_isIn (l := l) (g := g) (μ := μ2) v3 (0 : Int32) (8 : Int32) rfl) rfl (Nat.le_of_ble_eq_true rfl) (Nat.le_of_ble_eq_true rfl) (Nat.le_of_ble_eq_true rfl) (Nat.le_of_ble_eq_true rfl) (Nat.le_refl _) rfl rfl dX12_gain_22 ?_
            refine z_if_eq C0 49 dX12_gain_25 (by decide) (fun c5 => ?_) (fun c5 => ?_)
            · exact absurd hc12 (fun q => (fun q => (fun q => q.1 c5) q.2) q.2)
            · refine z_iload C0 dX12_gain_28 4 rfl ?_
              refine z_iconst (v := (0 : Int32)) C0 dX12_gain_30 (by decide) ?_
              refine z_iconst (v := (1 : Int32)) C0 dX12_gain_31 (by decide) ?_
              refine z_callS (As := [.int v4, .int (0 : Int32), .int (1 : Int32)]) (rest := []) C0 rfl kc_X12_isIn km_RX12_109 (r_X12_isIn (l := l) (g := g) (μ := μ2) v4 (0 : Int32) (1 : Int32) rfl) rfl (Nat.le_of_ble_eq_true rfl) (Nat.le_of_ble_eq_true rfl) (Nat.le_of_ble_eq_true rfl) (Nat.le_of_ble_eq_true rfl) (Nat.le_refl _) rfl rfl dX12_gain_32 ?_
              refine z_if_eq C0 49 dX12_gain_35 (by decide) (fun c6 => ?_) (fun c6 => ?_)
              · exact absurd hc12 (fun q => (fun q => (fun q => (fun q => q c6) q.2) q.2) q.2)
              · exact k13
    · have h := zif_f hc12 h
      refine z_join μ2 49 [(0, .ref (zb g + a0)), (1, .int v1), (2, .int v2), (3, .int v3), (4, .int v4)] [] ?_ (fun k14 => ?_)
      · refine z_ldcw C0 dX12_gain_49 kk_RX12_313 ?_
        refine z_sub (lo1 := []) [] rfl ?_
        obtain ⟨rfl, rfl⟩ := Prod.mk.inj (Option.some.inj h)
        exact k_J7
      · refine z_if_eq C0 49 dX12_gain_5 (by decide) (fun c3 => ?_) (fun c3 => ?_)
        · exact k14
        · refine z_iload_n C0 dX12_gain_8 rfl 2 rfl ?_
          refine z_iconst (v := (1 : Int32)) C0 dX12_gain_9 (by decide) ?_
          refine z_bipush (v := (12 : Int32)) C0 dX12_gain_10 (by decide) ?_
          refine z_callS (As := [.int v2, .int (1 : Int32), .int (12 : Int32)]) (rest := []) C0 rfl kc_X12_isIn km_RX12_109 (r_X12_isIn (l := l) (g := g) (μ := μ2) v2 (1 : Int32) (12 : Int32) rfl) rfl (Nat.le_of_ble_eq_true rfl) (Nat.le_of_ble_eq_true rfl) (Nat.le_of_ble_eq_true rfl) (Nat.le_of_ble_eq_true rfl) (Nat.le_refl _) rfl rfl dX12_gain_12 ?_
          refine z_if_eq C0 49 dX12_gain_15 (by decide) (fun c4 => ?_) (fun c4 => ?_)
          · exact k14
          · refine z_iload_n C0 dX12_gain_18 rfl 3 rfl ?_
            refine z_iconst (v := (0 : Int32)) C0 dX12_gain_19 (by decide) ?_
            refine z_bipush (v := (8 : Int32)) C0 dX12_gain_20 (by decide) ?_
            refine z_callS (As := [.int v3, .int (0 : Int32), .int (8 : Int32)]) (rest := []) C0 rfl kc_X12_isIn km_RX12_109 (r_X12_isIn (l := l) (g := g) (μ := μ2) v3 (0 : Int32) (8 : Int32) rfl) rfl (Nat.le_of_ble_eq_true rfl) (Nat.le_of_ble_eq_true rfl) (Nat.le_of_ble_eq_true rfl) (Nat.le_of_ble_eq_true rfl) (Nat.le_refl _) rfl rfl dX12_gain_22 ?_
            refine z_if_eq C0 49 dX12_gain_25 (by decide) (fun c5 => ?_) (fun c5 => ?_)
            · exact k14
            · refine z_iload C0 dX12_gain_28 4 rfl ?_
              refine z_iconst (v := (0 : Int32)) C0 dX12_gain_30 (by decide) ?_
              refine z_iconst (v := (1 : Int32)) C0 dX12_gain_31 (by decide) ?_
              refine z_callS (As := [.int v4, .int (0 : Int32), .int (1 : Int32)]) (rest := []) C0 rfl kc_X12_isIn km_RX12_109 (r_X12_isIn (l := l) (g := g) (μ := μ2) v4 (0 : Int32) (1 : Int32) rfl) rfl (Nat.le_of_ble_eq_true rfl) (Nat.le_of_ble_eq_true rfl) (Nat.le_of_ble_eq_true rfl) (Nat.le_of_ble_eq_true rfl) (Nat.le_refl _) rfl rfl dX12_gain_32 ?_
              refine z_if_eq C0 49 dX12_gain_35 (by decide) (fun c6 => ?_) (fun c6 => ?_)
              · exact k14
              · exact absurd ⟨c3, ⟨c4, ⟨c5, c6⟩⟩⟩ hc12
def f_X12_turn_L2 (a0 : Nat) (v1 : Int32) (μ3 : zM) : Nat → Int32 → Option ((Int32) ⊕ (Unit))
  | 0, _ => none
  | n + 1, y2 =>
    if (9 : Int32) < y2 then
      some (.inr ())
    else
      zbd (f_X12_listOf a0 (f_X12_axisOf v1) μ3) fun r15 =>
      zbd (f_X12_lean a0 r15 μ3) fun r16 =>
      zbd (f_X12_blown a0 v1 y2 (f_X12_axisOf v1) μ3) fun r17 =>
      if ¬ (f_X12_sign (r16 + r17)) = (f_X12_signOf v1) then
        zl (y2 + (1 : Int32)) fun x19 =>
        f_X12_turn_L2 a0 v1 μ3 n x19
      else
        some (.inl y2)
def f_X12_turn (a0 : Nat) (v1 : Int32) (μ : zM) : Option (Int32) :=
  zbd (f_X12_turn_L2 a0 v1 μ zFU (1 : Int32)) fun q20 => zsum q20 (fun t => some t) fun _ =>
  some (-1 : Int32)
set_option maxHeartbeats 4000000 in
set_option maxRecDepth 100000 in
theorem r_X12_turn_L2 {l : Launch} {g : zL} {p : Program} {e : Env} {s : State} {m : MethodId} {args : Array Value} {below : List Frame} {meth : Method} {c : Code} {rv : Int32} (C0 : zC p s m args meth c g cX12_turn yX12_turn 3 (some (.int))) (a0 : Nat) (v1 : Int32) (μ3 : zM) (hU1 : zT zNN zσ1 a0 12) : ∀ (n : Nat) (y2 : Int32) (q : (Int32) ⊕ (Unit)), f_X12_turn_L2 a0 v1 μ3 n y2 = some q → (∀ t, q = Sum.inl t → t = rv) → (∀ o, q = Sum.inr o → Z p l e (zrm 4 0 0) s m args below meth c g (MQ below (zQ g zNN zσ1 (some (.int rv)) μ3) args s 0 0 (zA g)) 3 zNN 0 0 zσ1 ((fun _ => μ3) o) 49 ((fun o => []) o) []) → Z p l e (zrm 4 0 0) s m args below meth c g (MQ below (zQ g zNN zσ1 (some (.int rv)) μ3) args s 0 0 (zA g)) 3 zNN 0 0 zσ1 μ3 2 [(0, .ref (zb g + a0)), (1, .int v1), (2, .int y2)] [] := by
  intro n
  induction n with
  | zero =>
    intro y2 q h kr kx
    rw [f_X12_turn_L2] at h
    cases h
  | succ n ih =>
    intro y2 q h kr kx
    rw [f_X12_turn_L2] at h
    refine z_iload_n C0 dX12_turn_2 rfl 2 rfl ?_
    refine z_bipush (v := (9 : Int32)) C0 dX12_turn_3 (by decide) ?_
    refine z_icmp_gt C0 49 dX12_turn_5 (by decide) (fun c4 => ?_) (fun c4 => ?_)
    · have h := zif_t c4 h
      refine z_sub (lo1 := []) [] rfl ?_
      exact kx () (Option.some.inj h).symm
    · have h := zif_f c4 h
      refine z_aload_n C0 dX12_turn_8 rfl 0 rfl ?_
      refine z_aload_n C0 dX12_turn_9 rfl 0 rfl ?_
      refine z_iload_n C0 dX12_turn_10 rfl 1 rfl ?_
      refine z_callS (As := [.int v1]) (rest := [.ref (zb g + a0), .ref (zb g + a0)]) C0 rfl kc_X12_axisOf km_RX12_200 (r_X12_axisOf (l := l) (g := g) (μ := μ3) v1 rfl) rfl (Nat.le_of_ble_eq_true rfl) (Nat.le_of_ble_eq_true rfl) (Nat.le_of_ble_eq_true rfl) (Nat.le_of_ble_eq_true rfl) (Nat.le_refl _) rfl rfl dX12_turn_11 ?_
      obtain ⟨r15, e_r15, h⟩ := zbd_of h
      refine z_callV (As := [.int (f_X12_axisOf v1)]) (rest := [.ref (zb g + a0)]) C0 rfl kc_X12_listOf km_RX12_260 (r_X12_listOf (l := l) (g := g) a0 (f_X12_axisOf v1) μ3 hU1 e_r15) hU1.1 hU1.2.2.1 rfl (by decide) rfl (Nat.le_of_ble_eq_true rfl) (Nat.le_of_ble_eq_true rfl) (Nat.le_of_ble_eq_true rfl) (Nat.le_of_ble_eq_true rfl) (Nat.le_refl _) rfl rfl dX12_turn_14 ?_
      obtain ⟨r16, e_r16, h⟩ := zbd_of h
      refine z_callV (As := [.int r15]) (rest := []) C0 rfl kc_X12_lean km_RX12_263 (r_X12_lean (l := l) (g := g) a0 r15 μ3 hU1 e_r16) hU1.1 hU1.2.2.1 rfl (by decide) rfl (Nat.le_of_ble_eq_true rfl) (Nat.le_of_ble_eq_true rfl) (Nat.le_of_ble_eq_true rfl) (Nat.le_of_ble_eq_true rfl) (Nat.le_refl _) rfl rfl dX12_turn_17 ?_
      refine z_aload_n C0 dX12_turn_20 rfl 0 rfl ?_
      refine z_iload_n C0 dX12_turn_21 rfl 1 rfl ?_
      refine z_iload_n C0 dX12_turn_22 rfl 2 rfl ?_
      refine z_iload_n C0 dX12_turn_23 rfl 1 rfl ?_
      refine z_callS (As := [.int v1]) (rest := [.int y2, .int v1, .ref (zb g + a0), .int r16]) C0 rfl kc_X12_axisOf km_RX12_200 (r_X12_axisOf (l := l) (g := g) (μ := μ3) v1 rfl) rfl (Nat.le_of_ble_eq_true rfl) (Nat.le_of_ble_eq_true rfl) (Nat.le_of_ble_eq_true rfl) (Nat.le_of_ble_eq_true rfl) (Nat.le_refl _) rfl rfl dX12_turn_24 ?_
      obtain ⟨r17, e_r17, h⟩ := zbd_of h
      refine z_callV (As := [.int v1, .int y2, .int (f_X12_axisOf v1)]) (rest := [.int r16]) C0 rfl kc_X12_blown km_RX12_266 (r_X12_blown (l := l) (g := g) a0 v1 y2 (f_X12_axisOf v1) μ3 hU1 e_r17) hU1.1 hU1.2.2.1 rfl (by decide) rfl (Nat.le_of_ble_eq_true rfl) (Nat.le_of_ble_eq_true rfl) (Nat.le_of_ble_eq_true rfl) (Nat.le_of_ble_eq_true rfl) (Nat.le_refl _) rfl rfl dX12_turn_27 ?_
      refine z_iadd C0 dX12_turn_30 ?_
      refine z_callS (As := [.int (r16 + r17)]) (rest := []) C0 rfl kc_X12_sign km_RX12_197 (r_X12_sign (l := l) (g := g) (μ := μ3) (r16 + r17) rfl) rfl (Nat.le_of_ble_eq_true rfl) (Nat.le_of_ble_eq_true rfl) (Nat.le_of_ble_eq_true rfl) (Nat.le_of_ble_eq_true rfl) (Nat.le_refl _) rfl rfl dX12_turn_31 ?_
      refine z_iload_n C0 dX12_turn_34 rfl 1 rfl ?_
      refine z_callS (As := [.int v1]) (rest := [.int (f_X12_sign (r16 + r17))]) C0 rfl kc_X12_signOf km_RX12_206 (r_X12_signOf (l := l) (g := g) (μ := μ3) v1 rfl) rfl (Nat.le_of_ble_eq_true rfl) (Nat.le_of_ble_eq_true rfl) (Nat.le_of_ble_eq_true rfl) (Nat.le_of_ble_eq_true rfl) (Nat.le_refl _) rfl rfl dX12_turn_35 ?_
      refine z_icmp_ne C0 43 dX12_turn_38 (by decide) (fun c18 => ?_) (fun c18 => ?_)
      · have h := zif_t c18 h
        obtain ⟨x19, e_x19, h⟩ := zl_of h
        refine z_iinc (lo1 := [(2, .int x19), (0, .ref (zb g + a0)), (1, .int v1)]) C0 dX12_turn_43 2 rfl (by decide) e_x19.symm (by decide) rfl ?_
        refine z_goto C0 2 dX12_turn_46 (by decide) ?_
        refine z_sub (lo1 := [(0, .ref (zb g + a0)), (1, .int v1), (2, .int x19)]) [1, 2, 0] rfl ?_
        exact ih _ _ h kr kx
      · have h := zif_f (fun q => q c18) h
        refine z_iload_n C0 dX12_turn_41 rfl 2 rfl ?_
        have h := kr _ (Option.some.inj h).symm
        obtain rfl := h
        exact z_iret C0 rfl dX12_turn_42
set_option maxHeartbeats 4000000 in
set_option maxRecDepth 100000 in
theorem r_X12_turn {l : Launch} {g : zL} (a0 : Nat) (v1 : Int32) (μ : zM) (hT0 : zT zNN zσ1 a0 12) {rv : Int32} (h : f_X12_turn a0 v1 μ = some rv) : zMet l g yX12_turn cX12_turn 3 (some (.int)) 4 0 0 zNN zNN zσ1 zσ1 [.ref (zb g + a0), .int v1] μ (some (.int rv)) μ := by
  refine zMet.of (by decide +kernel) (Nat.le_of_ble_eq_true rfl) ?_
  intro p e s m args below meth c C0
  refine z_loc (lo1 := [(0, .ref (zb g + a0)), (1, .int v1)]) rfl ?_
  unfold f_X12_turn at h
  refine z_iconst (v := (1 : Int32)) C0 dX12_turn_0 (by decide) ?_
  refine z_istore_n (lo1 := [(2, .int (1 : Int32)), (0, .ref (zb g + a0)), (1, .int v1)]) C0 dX12_turn_1 rfl (by decide) rfl ?_
  refine z_sub (lo1 := [(0, .ref (zb g + a0)), (1, .int v1), (2, .int (1 : Int32))]) [1, 2, 0] rfl ?_
  obtain ⟨q20, e_q20, h⟩ := zbd_of h
  refine r_X12_turn_L2 C0 a0 v1 μ hT0 zFU (1 : Int32) q20 e_q20 ?_ ?_
  · intro t ht
    have h := zsum_l h _ ht
    exact Option.some.inj h
  · intro u_ hq
    have h := zsum_r h _ hq
    refine z_iconst (v := (-1 : Int32)) C0 dX12_turn_49 (by decide) ?_
    have h := Option.some.inj h
    obtain rfl := h
    exact z_iret C0 rfl dX12_turn_50
def f_X12_wake_L7 (a0 : Nat) (x1 : Int32) : Nat → Int32 → zM → Option ((Int32 × zM) ⊕ (zM))
  | 0, _, _ => none
  | n + 1, y3, μ4 =>
    if (60 : Int32) < y3 then
      some (.inr μ4)
    else
      zbd (f_X12_hour a0 (1 : Int32) μ4) fun μ6 =>
      if (μ6 a0 15) ≤ x1 then
        zl (y3 + (1 : Int32)) fun x8 =>
        f_X12_wake_L7 a0 x1 n x8 μ6
      else
        some (.inl (y3, μ6))
def f_X12_wake (a0 : Nat) (μ : zM) : Option (Int32 × zM) :=
  zl (μ a0 15) fun x1 =>
  zbd (f_X12_wake_L7 a0 x1 zFU (1 : Int32) μ) fun q10 => zsum q10 (fun t => some t) fun μ9 =>
  some ((-1 : Int32), μ9)
set_option maxHeartbeats 4000000 in
set_option maxRecDepth 100000 in
theorem r_X12_wake_L7 {l : Launch} {g : zL} {p : Program} {e : Env} {s : State} {m : MethodId} {args : Array Value} {below : List Frame} {meth : Method} {c : Code} {rv : Int32} {μr : zM} (C0 : zC p s m args meth c g cX12_wake yX12_wake 3 (some (.int))) (a0 : Nat) (x1 : Int32) (hU2 : zT zNN zσ1 a0 12) : ∀ (n : Nat) (y3 : Int32) (μ4 : zM) (q : (Int32 × zM) ⊕ (zM)), f_X12_wake_L7 a0 x1 n y3 μ4 = some q → (∀ t, q = Sum.inl t → t = (rv, μr)) → (∀ o, q = Sum.inr o → Z p l e (zrm 6 0 0) s m args below meth c g (MQ below (zQ g zNN zσ1 (some (.int rv)) μr) args s 0 0 (zA g)) 3 zNN 0 0 zσ1 ((fun o => o) o) 34 ((fun o => []) o) []) → Z p l e (zrm 6 0 0) s m args below meth c g (MQ below (zQ g zNN zσ1 (some (.int rv)) μr) args s 0 0 (zA g)) 3 zNN 0 0 zσ1 μ4 7 [(0, .ref (zb g + a0)), (1, .int x1), (2, .int y3)] [] := by
  intro n
  induction n with
  | zero =>
    intro y3 μ4 q h kr kx
    rw [f_X12_wake_L7] at h
    cases h
  | succ n ih =>
    intro y3 μ4 q h kr kx
    rw [f_X12_wake_L7] at h
    refine z_iload_n C0 dX12_wake_7 rfl 2 rfl ?_
    refine z_bipush (v := (60 : Int32)) C0 dX12_wake_8 (by decide) ?_
    refine z_icmp_gt C0 34 dX12_wake_10 (by decide) (fun c5 => ?_) (fun c5 => ?_)
    · have h := zif_t c5 h
      refine z_sub (lo1 := []) [] rfl ?_
      exact kx μ4 (Option.some.inj h).symm
    · have h := zif_f c5 h
      refine z_aload_n C0 dX12_wake_13 rfl 0 rfl ?_
      refine z_iconst (v := (1 : Int32)) C0 dX12_wake_14 (by decide) ?_
      obtain ⟨μ6, e_μ6, h⟩ := zbd_of h
      refine z_callV (As := [.int (1 : Int32)]) (rest := []) C0 rfl kc_X12_hour km_RX12_291 (r_X12_hour (l := l) (g := g) a0 (1 : Int32) μ4 hU2 e_μ6) hU2.1 hU2.2.2.1 rfl (by decide) rfl (Nat.le_of_ble_eq_true rfl) (Nat.le_of_ble_eq_true rfl) (Nat.le_of_ble_eq_true rfl) (Nat.le_of_ble_eq_true rfl) (Nat.le_refl _) rfl rfl dX12_wake_15 ?_
      refine z_aload_n C0 dX12_wake_18 rfl 0 rfl ?_
      refine z_geti C0 hU2.1 hU2.2.2.1 kf_12_227 zr_12_15 dX12_wake_19 ?_
      refine z_iload_n C0 dX12_wake_22 rfl 1 rfl ?_
      refine z_icmp_le C0 28 dX12_wake_23 (by decide) (fun c7 => ?_) (fun c7 => ?_)
      · have h := zif_t c7 h
        obtain ⟨x8, e_x8, h⟩ := zl_of h
        refine z_iinc (lo1 := [(2, .int x8), (0, .ref (zb g + a0)), (1, .int x1)]) C0 dX12_wake_28 2 rfl (by decide) e_x8.symm (by decide) rfl ?_
        refine z_goto C0 7 dX12_wake_31 (by decide) ?_
        refine z_sub (lo1 := [(0, .ref (zb g + a0)), (1, .int x1), (2, .int x8)]) [1, 2, 0] rfl ?_
        exact ih _ _ _ h kr kx
      · have h := zif_f c7 h
        refine z_iload_n C0 dX12_wake_26 rfl 2 rfl ?_
        have h := kr _ (Option.some.inj h).symm
        obtain ⟨rfl, rfl⟩ := Prod.mk.inj h
        exact z_iret C0 rfl dX12_wake_27
set_option maxHeartbeats 4000000 in
set_option maxRecDepth 100000 in
theorem r_X12_wake {l : Launch} {g : zL} (a0 : Nat) (μ : zM) (hT0 : zT zNN zσ1 a0 12) {rv : Int32} {μr : zM} (h : f_X12_wake a0 μ = some (rv, μr)) : zMet l g yX12_wake cX12_wake 3 (some (.int)) 6 0 0 zNN zNN zσ1 zσ1 [.ref (zb g + a0)] μ (some (.int rv)) μr := by
  refine zMet.of (by decide +kernel) (Nat.le_of_ble_eq_true rfl) ?_
  intro p e s m args below meth c C0
  refine z_loc (lo1 := [(0, .ref (zb g + a0))]) rfl ?_
  unfold f_X12_wake at h
  refine z_aload_n C0 dX12_wake_0 rfl 0 rfl ?_
  refine z_geti C0 hT0.1 hT0.2.2.1 kf_12_227 zr_12_15 dX12_wake_1 ?_
  obtain ⟨x1, e_x1, h⟩ := zl_of h
  refine z_nm e_x1 ?_
  refine z_istore_n (lo1 := [(1, .int x1), (0, .ref (zb g + a0))]) C0 dX12_wake_4 rfl (by decide) rfl ?_
  refine z_iconst (v := (1 : Int32)) C0 dX12_wake_5 (by decide) ?_
  refine z_istore_n (lo1 := [(2, .int (1 : Int32)), (1, .int x1), (0, .ref (zb g + a0))]) C0 dX12_wake_6 rfl (by decide) rfl ?_
  refine z_sub (lo1 := [(0, .ref (zb g + a0)), (1, .int x1), (2, .int (1 : Int32))]) [2, 1, 0] rfl ?_
  obtain ⟨q10, e_q10, h⟩ := zbd_of h
  refine r_X12_wake_L7 C0 a0 x1 hT0 zFU (1 : Int32) μ q10 e_q10 ?_ ?_
  · intro t ht
    have h := zsum_l h _ ht
    exact Option.some.inj h
  · intro μ9 hq
    have h := zsum_r h _ hq
    refine z_iconst (v := (-1 : Int32)) C0 dX12_wake_34 (by decide) ?_
    have h := Option.some.inj h
    obtain ⟨rfl, rfl⟩ := Prod.mk.inj h
    exact z_iret C0 rfl dX12_wake_35
def f_X12_hold_L2 (a0 : Nat) : Nat → Int32 → zM → Option ((Int32 × zM) ⊕ (zM))
  | 0, _, _ => none
  | n + 1, y2, μ3 =>
    if (60 : Int32) < y2 then
      some (.inr μ3)
    else
      if (μ3 a0 17) = 0 then
        zbd (f_X12_hour a0 (1 : Int32) μ3) fun μ7 =>
        zl (y2 + (1 : Int32)) fun x8 =>
        f_X12_hold_L2 a0 n x8 μ7
      else
        some (.inl (y2, μ3))
def f_X12_hold (a0 : Nat) (μ : zM) : Option (Int32 × zM) :=
  zbd (f_X12_hold_L2 a0 zFU (0 : Int32) μ) fun q10 => zsum q10 (fun t => some t) fun μ9 =>
  some ((-1 : Int32), μ9)
set_option maxHeartbeats 4000000 in
set_option maxRecDepth 100000 in
theorem r_X12_hold_L2 {l : Launch} {g : zL} {p : Program} {e : Env} {s : State} {m : MethodId} {args : Array Value} {below : List Frame} {meth : Method} {c : Code} {rv : Int32} {μr : zM} (C0 : zC p s m args meth c g cX12_hold yX12_hold 2 (some (.int))) (a0 : Nat) (hU1 : zT zNN zσ1 a0 12) : ∀ (n : Nat) (y2 : Int32) (μ3 : zM) (q : (Int32 × zM) ⊕ (zM)), f_X12_hold_L2 a0 n y2 μ3 = some q → (∀ t, q = Sum.inl t → t = (rv, μr)) → (∀ o, q = Sum.inr o → Z p l e (zrm 6 0 0) s m args below meth c g (MQ below (zQ g zNN zσ1 (some (.int rv)) μr) args s 0 0 (zA g)) 2 zNN 0 0 zσ1 ((fun o => o) o) 28 ((fun o => []) o) []) → Z p l e (zrm 6 0 0) s m args below meth c g (MQ below (zQ g zNN zσ1 (some (.int rv)) μr) args s 0 0 (zA g)) 2 zNN 0 0 zσ1 μ3 2 [(0, .ref (zb g + a0)), (1, .int y2)] [] := by
  intro n
  induction n with
  | zero =>
    intro y2 μ3 q h kr kx
    rw [f_X12_hold_L2] at h
    cases h
  | succ n ih =>
    intro y2 μ3 q h kr kx
    rw [f_X12_hold_L2] at h
    refine z_iload_n C0 dX12_hold_2 rfl 1 rfl ?_
    refine z_bipush (v := (60 : Int32)) C0 dX12_hold_3 (by decide) ?_
    refine z_icmp_gt C0 28 dX12_hold_5 (by decide) (fun c4 => ?_) (fun c4 => ?_)
    · have h := zif_t c4 h
      refine z_sub (lo1 := []) [] rfl ?_
      exact kx μ3 (Option.some.inj h).symm
    · have h := zif_f c4 h
      refine z_aload_n C0 dX12_hold_8 rfl 0 rfl ?_
      refine z_geti C0 hU1.1 hU1.2.2.1 kf_12_236 zr_12_17 dX12_hold_9 ?_
      refine z_if_eq C0 17 dX12_hold_12 (by decide) (fun c6 => ?_) (fun c6 => ?_)
      · have h := zif_t c6 h
        refine z_aload_n C0 dX12_hold_17 rfl 0 rfl ?_
        refine z_iconst (v := (1 : Int32)) C0 dX12_hold_18 (by decide) ?_
        obtain ⟨μ7, e_μ7, h⟩ := zbd_of h
        refine z_callV (As := [.int (1 : Int32)]) (rest := []) C0 rfl kc_X12_hour km_RX12_291 (r_X12_hour (l := l) (g := g) a0 (1 : Int32) μ3 hU1 e_μ7) hU1.1 hU1.2.2.1 rfl (by decide) rfl (Nat.le_of_ble_eq_true rfl) (Nat.le_of_ble_eq_true rfl) (Nat.le_of_ble_eq_true rfl) (Nat.le_of_ble_eq_true rfl) (Nat.le_refl _) rfl rfl dX12_hold_19 ?_
        obtain ⟨x8, e_x8, h⟩ := zl_of h
        refine z_iinc (lo1 := [(1, .int x8), (0, .ref (zb g + a0))]) C0 dX12_hold_22 1 rfl (by decide) e_x8.symm (by decide) rfl ?_
        refine z_goto C0 2 dX12_hold_25 (by decide) ?_
        refine z_sub (lo1 := [(0, .ref (zb g + a0)), (1, .int x8)]) [1, 0] rfl ?_
        exact ih _ _ _ h kr kx
      · have h := zif_f c6 h
        refine z_iload_n C0 dX12_hold_15 rfl 1 rfl ?_
        have h := kr _ (Option.some.inj h).symm
        obtain ⟨rfl, rfl⟩ := Prod.mk.inj h
        exact z_iret C0 rfl dX12_hold_16
set_option maxHeartbeats 4000000 in
set_option maxRecDepth 100000 in
theorem r_X12_hold {l : Launch} {g : zL} (a0 : Nat) (μ : zM) (hT0 : zT zNN zσ1 a0 12) {rv : Int32} {μr : zM} (h : f_X12_hold a0 μ = some (rv, μr)) : zMet l g yX12_hold cX12_hold 2 (some (.int)) 6 0 0 zNN zNN zσ1 zσ1 [.ref (zb g + a0)] μ (some (.int rv)) μr := by
  refine zMet.of (by decide +kernel) (Nat.le_of_ble_eq_true rfl) ?_
  intro p e s m args below meth c C0
  refine z_loc (lo1 := [(0, .ref (zb g + a0))]) rfl ?_
  unfold f_X12_hold at h
  refine z_iconst (v := (0 : Int32)) C0 dX12_hold_0 (by decide) ?_
  refine z_istore_n (lo1 := [(1, .int (0 : Int32)), (0, .ref (zb g + a0))]) C0 dX12_hold_1 rfl (by decide) rfl ?_
  refine z_sub (lo1 := [(0, .ref (zb g + a0)), (1, .int (0 : Int32))]) [1, 0] rfl ?_
  obtain ⟨q10, e_q10, h⟩ := zbd_of h
  refine r_X12_hold_L2 C0 a0 hT0 zFU (0 : Int32) μ q10 e_q10 ?_ ?_
  · intro t ht
    have h := zsum_l h _ ht
    exact Option.some.inj h
  · intro μ9 hq
    have h := zsum_r h _ hq
    refine z_iconst (v := (-1 : Int32)) C0 dX12_hold_28 (by decide) ?_
    have h := Option.some.inj h
    obtain ⟨rfl, rfl⟩ := Prod.mk.inj h
    exact z_iret C0 rfl dX12_hold_29
def f_X12_goes (a0 : Nat) (v1 : Int32) (v2 : Int32) (v3 : Int32) (v4 : Int32) (μ : zM) : Option (Int32 × zM) :=
  zbd2 (f_X12_isState a0 v1 v2 v3 μ) fun r1 μ2 =>
  if ¬ r1 = 0 then
    if (f_X12_isIn v4 (10 : Int32) (13 : Int32)) = 0 then
      zbd2 (if ¬ v4 = 0 then
          if ¬ v4 = (1 : Int32) then
            some ((-2 : Int32), μ2)
          else
            zbd2 (f_X12_hold a0 μ2) fun r14 μ15 =>
            some (r14, μ15)
        else
          zbd2 (f_X12_wake a0 μ2) fun r16 μ17 =>
          some (r16, μ17)) fun x18 μ19 =>
      some (x18, μ19)
    else
      zbd (f_X12_turn a0 (v4 - (10 : Int32)) μ2) fun r20 =>
      some (r20, μ2)
  else
    some ((-2 : Int32), μ2)
set_option maxHeartbeats 4000000 in
set_option maxRecDepth 100000 in
theorem r_X12_goes {l : Launch} {g : zL} (a0 : Nat) (v1 : Int32) (v2 : Int32) (v3 : Int32) (v4 : Int32) (μ : zM) (hT0 : zT zNN zσ1 a0 12) {rv : Int32} {μr : zM} (h : f_X12_goes a0 v1 v2 v3 v4 μ = some (rv, μr)) : zMet l g yX12_goes cX12_goes 5 (some (.int)) 9 0 0 zNN zNN zσ1 zσ1 [.ref (zb g + a0), .int v1, .int v2, .int v3, .int v4] μ (some (.int rv)) μr := by
  refine zMet.of (by decide +kernel) (Nat.le_of_ble_eq_true rfl) ?_
  intro p e s m args below meth c C0
  refine z_loc (lo1 := [(0, .ref (zb g + a0)), (1, .int v1), (2, .int v2), (3, .int v3), (4, .int v4)]) rfl ?_
  unfold f_X12_goes at h
  refine z_aload_n C0 dX12_goes_0 rfl 0 rfl ?_
  refine z_iload_n C0 dX12_goes_1 rfl 1 rfl ?_
  refine z_iload_n C0 dX12_goes_2 rfl 2 rfl ?_
  refine z_iload_n C0 dX12_goes_3 rfl 3 rfl ?_
  obtain ⟨r1, μ2, e_r1, h⟩ := zbd2_of h
  refine z_callV (As := [.int v1, .int v2, .int v3]) (rest := []) C0 rfl kc_X12_isState km_RX12_310 (r_X12_isState (l := l) (g := g) a0 v1 v2 v3 μ hT0 e_r1) hT0.1 hT0.2.2.1 rfl (by decide) rfl (Nat.le_of_ble_eq_true rfl) (Nat.le_of_ble_eq_true rfl) (Nat.le_of_ble_eq_true rfl) (Nat.le_of_ble_eq_true rfl) (Nat.le_refl _) rfl rfl dX12_goes_4 ?_
  refine z_if_ne C0 13 dX12_goes_7 (by decide) (fun c3 => ?_) (fun c3 => ?_)
  · have h := zif_t c3 h
    refine z_iload C0 dX12_goes_13 4 rfl ?_
    refine z_bipush (v := (10 : Int32)) C0 dX12_goes_15 (by decide) ?_
    refine z_bipush (v := (13 : Int32)) C0 dX12_goes_17 (by decide) ?_
    refine z_callS (As := [.int v4, .int (10 : Int32), .int (13 : Int32)]) (rest := []) C0 rfl kc_X12_isIn km_RX12_109 (r_X12_isIn (l := l) (g := g) (μ := μ2) v4 (10 : Int32) (13 : Int32) rfl) rfl (Nat.le_of_ble_eq_true rfl) (Nat.le_of_ble_eq_true rfl) (Nat.le_of_ble_eq_true rfl) (Nat.le_of_ble_eq_true rfl) (Nat.le_refl _) rfl rfl dX12_goes_19 ?_
    refine z_if_eq C0 35 dX12_goes_22 (by decide) (fun c7 => ?_) (fun c7 => ?_)
    · have h := zif_t c7 h
      refine z_iload C0 dX12_goes_35 4 rfl ?_
      obtain ⟨x18, μ19, e_x18, h⟩ := zbd2_of h
      refine z_join μ19 62 [] [.int x18] ?_ (fun k_J12 => ?_)
      · have h := Option.some.inj h
        obtain ⟨rfl, rfl⟩ := Prod.mk.inj h
        exact z_iret C0 rfl dX12_goes_62
      · have h := e_x18
        refine z_if_ne C0 47 dX12_goes_37 (by decide) (fun c10 => ?_) (fun c10 => ?_)
        · have h := zif_t c10 h
          refine z_iload C0 dX12_goes_47 4 rfl ?_
          refine z_iconst (v := (1 : Int32)) C0 dX12_goes_49 (by decide) ?_
          refine z_icmp_ne C0 60 dX12_goes_50 (by decide) (fun c13 => ?_) (fun c13 => ?_)
          · have h := zif_t c13 h
            refine z_bipush (v := (-2 : Int32)) C0 dX12_goes_60 (by decide) ?_
            refine z_sub (lo1 := []) [] rfl ?_
            obtain ⟨rfl, rfl⟩ := Prod.mk.inj (Option.some.inj h)
            exact k_J12
          · have h := zif_f (fun q => q c13) h
            refine z_aload_n C0 dX12_goes_53 rfl 0 rfl ?_
            obtain ⟨r14, μ15, e_r14, h⟩ := zbd2_of h
            refine z_callV (As := []) (rest := []) C0 rfl kc_X12_hold km_RX12_320 (r_X12_hold (l := l) (g := g) a0 μ2 hT0 e_r14) hT0.1 hT0.2.2.1 rfl (by decide) rfl (Nat.le_of_ble_eq_true rfl) (Nat.le_of_ble_eq_true rfl) (Nat.le_of_ble_eq_true rfl) (Nat.le_of_ble_eq_true rfl) (Nat.le_refl _) rfl rfl dX12_goes_54 ?_
            refine z_goto C0 62 dX12_goes_57 (by decide) ?_
            refine z_sub (lo1 := []) [] rfl ?_
            obtain ⟨rfl, rfl⟩ := Prod.mk.inj (Option.some.inj h)
            exact k_J12
        · have h := zif_f (fun q => q c10) h
          refine z_aload_n C0 dX12_goes_40 rfl 0 rfl ?_
          obtain ⟨r16, μ17, e_r16, h⟩ := zbd2_of h
          refine z_callV (As := []) (rest := []) C0 rfl kc_X12_wake km_RX12_317 (r_X12_wake (l := l) (g := g) a0 μ2 hT0 e_r16) hT0.1 hT0.2.2.1 rfl (by decide) rfl (Nat.le_of_ble_eq_true rfl) (Nat.le_of_ble_eq_true rfl) (Nat.le_of_ble_eq_true rfl) (Nat.le_of_ble_eq_true rfl) (Nat.le_refl _) rfl rfl dX12_goes_41 ?_
          refine z_goto C0 62 dX12_goes_44 (by decide) ?_
          refine z_sub (lo1 := []) [] rfl ?_
          obtain ⟨rfl, rfl⟩ := Prod.mk.inj (Option.some.inj h)
          exact k_J12
    · have h := zif_f c7 h
      refine z_aload_n C0 dX12_goes_25 rfl 0 rfl ?_
      refine z_iload C0 dX12_goes_26 4 rfl ?_
      refine z_bipush (v := (10 : Int32)) C0 dX12_goes_28 (by decide) ?_
      refine z_isub C0 dX12_goes_30 ?_
      obtain ⟨r20, e_r20, h⟩ := zbd_of h
      refine z_callV (As := [.int (v4 - (10 : Int32))]) (rest := []) C0 rfl kc_X12_turn km_RX12_314 (r_X12_turn (l := l) (g := g) a0 (v4 - (10 : Int32)) μ2 hT0 e_r20) hT0.1 hT0.2.2.1 rfl (by decide) rfl (Nat.le_of_ble_eq_true rfl) (Nat.le_of_ble_eq_true rfl) (Nat.le_of_ble_eq_true rfl) (Nat.le_of_ble_eq_true rfl) (Nat.le_refl _) rfl rfl dX12_goes_31 ?_
      have h := Option.some.inj h
      obtain ⟨rfl, rfl⟩ := Prod.mk.inj h
      exact z_iret C0 rfl dX12_goes_34
  · have h := zif_f (fun q => q c3) h
    refine z_bipush (v := (-2 : Int32)) C0 dX12_goes_10 (by decide) ?_
    have h := Option.some.inj h
    obtain ⟨rfl, rfl⟩ := Prod.mk.inj h
    exact z_iret C0 rfl dX12_goes_12
