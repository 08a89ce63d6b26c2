def f_X4_putAt (a0 : Nat) (v1 : Int32) (v2 : Int32) (μ : zM) : zM :=
  zl (zup μ a0 2 v1) fun μ1 =>
  zl (zup μ1 a0 3 v2) fun μ2 =>
  μ2
set_option maxHeartbeats 4000000 in
set_option maxRecDepth 100000 in
theorem r_X4_putAt {l : Launch} {g : zL} (a0 : Nat) (v1 : Int32) (v2 : Int32) (μ : zM) (hT0 : zT zNN zσ1 a0 4) {μr : zM} (h : f_X4_putAt a0 v1 v2 μ = μr) : zMet l g yX4_putAt cX4_putAt 3 none 0 0 0 zNN zNN zσ1 zσ1 [.ref (zb g + a0), .int v1, .int v2] μ none μr := by
  refine zMet.of (by decide +kernel) (Nat.le_of_ble_eq_true rfl) ?_
  intro p e s m args below meth c C0
  refine z_loc (lo1 := [(0, .ref (zb g + a0)), (1, .int v1), (2, .int v2)]) rfl ?_
  unfold f_X4_putAt at h
  refine z_aload_n C0 dX4_putAt_0 rfl 0 rfl ?_
  refine z_iload_n C0 dX4_putAt_1 rfl 1 rfl ?_
  obtain ⟨μ1, e_μ1, h⟩ := zl_of h
  refine z_puti C0 hT0.1 hT0.2.2.1 kf_4_64 zp_4_2 zr_4_2 e_μ1 dX4_putAt_2 ?_
  refine z_aload_n C0 dX4_putAt_5 rfl 0 rfl ?_
  refine z_iload_n C0 dX4_putAt_6 rfl 2 rfl ?_
  obtain ⟨μ2, e_μ2, h⟩ := zl_of h
  refine z_puti C0 hT0.1 hT0.2.2.1 kf_4_67 zp_4_3 zr_4_3 e_μ2 dX4_putAt_7 ?_
  skip
  obtain rfl := h
  exact z_vret C0 rfl dX4_putAt_10
def f_X4_sides (a0 : Nat) (μ : zM) : Option (Int32) :=
  zl (if ¬ (μ a0 3) = 0 then
      (0 : Int32)
    else
      (1 : Int32)) fun x3 =>
  zg (zgk (μ a0 0) 1) <|
  zg (zgk (μ a0 1) 1) <|
  zl (if ¬ ((μ a0 2) + (f_X1_lines ((μ a0 0).toNatClampNeg) (0 : Int32) μ)) = (μ (((μ a0 1).toNatClampNeg) + 1) 0) then
      (0 : Int32)
    else
      (2 : Int32)) fun x8 =>
  zl (x3 ||| x8) fun x9 =>
  zl (if ¬ ((μ a0 3) + (f_X1_lines ((μ a0 0).toNatClampNeg) (1 : Int32) μ)) = (μ (((μ a0 1).toNatClampNeg) + 1) 1) then
      (0 : Int32)
    else
      (4 : Int32)) fun x12 =>
  zl (x9 ||| x12) fun x13 =>
  zl (if ¬ (μ a0 2) = 0 then
      (0 : Int32)
    else
      (8 : Int32)) fun x16 =>
  some (x13 ||| x16)
set_option maxHeartbeats 4000000 in
set_option maxRecDepth 100000 in
theorem r_X4_sides {l : Launch} {g : zL} (a0 : Nat) (μ : zM) (hT0 : zT zNN zσ1 a0 4) {rv : Int32} (h : f_X4_sides a0 μ = some rv) : zMet l g yX4_sides cX4_sides 2 (some (.int)) 1 0 0 zNN zNN zσ1 zσ1 [.ref (zb g + a0)] μ (some (.int rv)) μ := by
  refine zMet.of (by decide +kernel) (Nat.le_of_ble_eq_true rfl) ?_
  intro p e s m args below meth c C0
  refine z_loc (lo1 := [(0, .ref (zb g + a0))]) rfl ?_
  unfold f_X4_sides at h
  refine z_aload_n C0 dX4_sides_0 rfl 0 rfl ?_
  refine z_geti C0 hT0.1 hT0.2.2.1 kf_4_67 zr_4_3 dX4_sides_1 ?_
  obtain ⟨x3, e_x3, h⟩ := zl_of h
  refine z_join μ 12 [(0, .ref (zb g + a0))] [.int x3] ?_ (fun k_J2 => ?_)
  · refine z_istore_n (lo1 := [(1, .int x3), (0, .ref (zb g + a0))]) C0 dX4_sides_12 rfl (by decide) rfl ?_
    refine z_iload_n C0 dX4_sides_13 rfl 0 rfl ?_
    refine z_aload_n C0 dX4_sides_14 rfl 1 rfl ?_
    refine z_geti C0 hT0.1 hT0.2.2.1 kf_4_64 zr_4_2 dX4_sides_15 ?_
    refine z_aload_n C0 dX4_sides_18 rfl 1 rfl ?_
    obtain ⟨g4, h⟩ := zg_of h
    refine z_getd C0 hT0.1 hT0.2.2.1 kf_4_18 zr_4_0 (zgk_T g4 (by decide)).1 dX4_sides_19 ?_
    refine z_iconst (v := (0 : Int32)) C0 dX4_sides_22 (by decide) ?_
    refine z_callV (As := [.int (0 : Int32)]) (rest := [.int (μ a0 2), .int x3]) C0 rfl kc_X1_lines km_RX4_93 (r_X1_lines (l := l) (g := g) ((μ a0 0).toNatClampNeg) (0 : Int32) μ (zgk_T g4 (by decide)).2 rfl) (zgk_T g4 (by decide)).2.1 (zgk_T g4 (by decide)).2.2.2.1 rfl (by decide) rfl (Nat.le_of_ble_eq_true rfl) (Nat.le_of_ble_eq_true rfl) (Nat.le_of_ble_eq_true rfl) (Nat.le_of_ble_eq_true rfl) (Nat.le_refl _) rfl rfl dX4_sides_23 ?_
    refine z_iadd C0 dX4_sides_26 ?_
    refine z_aload_n C0 dX4_sides_27 rfl 1 rfl ?_
    obtain ⟨g5, h⟩ := zg_of h
    refine z_getd C0 hT0.1 hT0.2.2.1 kf_4_22 zr_4_1 (zgk_T g5 (by decide)).1 dX4_sides_28 ?_
    refine z_getr C0 (zgk_T g5 (by decide)).2 kf_4_48 zr_1_0 zx_1 (zs_1_0 (zgk_T g5 (by decide)).2).1 dX4_sides_31 ?_
    refine z_iconst (v := (0 : Int32)) C0 dX4_sides_34 (by decide) ?_
    refine z_iald (j := 0) C0 (zs_1_0 (zgk_T g5 (by decide)).2).2 (by decide : zin (0 : Int32) 11 = true) (by decide) dX4_sides_35 ?_
    obtain ⟨x8, e_x8, h⟩ := zl_of h
    refine z_join μ 44 [(0, .ref (zb g + a0))] [.int x8, .int x3] ?_ (fun k_J7 => ?_)
    · refine z_ior C0 dX4_sides_44 ?_
      obtain ⟨x9, e_x9, h⟩ := zl_of h
      refine z_nm e_x9 ?_
      refine z_istore_n (lo1 := [(1, .int x9), (0, .ref (zb g + a0))]) C0 dX4_sides_45 rfl (by decide) rfl ?_
      refine z_iload_n C0 dX4_sides_46 rfl 0 rfl ?_
      refine z_aload_n C0 dX4_sides_47 rfl 1 rfl ?_
      refine z_geti C0 hT0.1 hT0.2.2.1 kf_4_67 zr_4_3 dX4_sides_48 ?_
      refine z_aload_n C0 dX4_sides_51 rfl 1 rfl ?_
      refine z_getd C0 hT0.1 hT0.2.2.1 kf_4_18 zr_4_0 (zgk_T g4 (by decide)).1 dX4_sides_52 ?_
      refine z_iconst (v := (1 : Int32)) C0 dX4_sides_55 (by decide) ?_
      refine z_callV (As := [.int (1 : Int32)]) (rest := [.int (μ a0 3), .int x9]) C0 rfl kc_X1_lines km_RX4_93 (r_X1_lines (l := l) (g := g) ((μ a0 0).toNatClampNeg) (1 : Int32) μ (zgk_T g4 (by decide)).2 rfl) (zgk_T g4 (by decide)).2.1 (zgk_T g4 (by decide)).2.2.2.1 rfl (by decide) rfl (Nat.le_of_ble_eq_true rfl) (Nat.le_of_ble_eq_true rfl) (Nat.le_of_ble_eq_true rfl) (Nat.le_of_ble_eq_true rfl) (Nat.le_refl _) rfl rfl dX4_sides_56 ?_
      refine z_iadd C0 dX4_sides_59 ?_
      refine z_aload_n C0 dX4_sides_60 rfl 1 rfl ?_
      refine z_getd C0 hT0.1 hT0.2.2.1 kf_4_22 zr_4_1 (zgk_T g5 (by decide)).1 dX4_sides_61 ?_
      refine z_getr C0 (zgk_T g5 (by decide)).2 kf_4_48 zr_1_0 zx_1 (zs_1_0 (zgk_T g5 (by decide)).2).1 dX4_sides_64 ?_
      refine z_iconst (v := (1 : Int32)) C0 dX4_sides_67 (by decide) ?_
      refine z_iald (j := 1) C0 (zs_1_0 (zgk_T g5 (by decide)).2).2 (by decide : zin (1 : Int32) 11 = true) (by decide) dX4_sides_68 ?_
      obtain ⟨x12, e_x12, h⟩ := zl_of h
      refine z_join μ 77 [(0, .ref (zb g + a0))] [.int x12, .int x9] ?_ (fun k_J11 => ?_)
      · refine z_ior C0 dX4_sides_77 ?_
        obtain ⟨x13, e_x13, h⟩ := zl_of h
        refine z_nm e_x13 ?_
        refine z_istore_n (lo1 := [(1, .int x13), (0, .ref (zb g + a0))]) C0 dX4_sides_78 rfl (by decide) rfl ?_
        refine z_iload_n C0 dX4_sides_79 rfl 0 rfl ?_
        refine z_aload_n C0 dX4_sides_80 rfl 1 rfl ?_
        refine z_geti C0 hT0.1 hT0.2.2.1 kf_4_64 zr_4_2 dX4_sides_81 ?_
        obtain ⟨x16, e_x16, h⟩ := zl_of h
        refine z_join μ 93 [] [.int x16, .int x13] ?_ (fun k_J15 => ?_)
        · refine z_ior C0 dX4_sides_93 ?_
          have h := Option.some.inj h
          obtain rfl := h
          exact z_iret C0 rfl dX4_sides_94
        · have h := e_x16.symm
          refine z_if_ne C0 92 dX4_sides_84 (by decide) (fun c14 => ?_) (fun c14 => ?_)
          · have h := zif_t c14 h
            refine z_iconst (v := (0 : Int32)) C0 dX4_sides_92 (by decide) ?_
            refine z_sub (lo1 := []) [] rfl ?_
            obtain rfl := h
            exact k_J15
          · have h := zif_f (fun q => q c14) h
            refine z_bipush (v := (8 : Int32)) C0 dX4_sides_87 (by decide) ?_
            refine z_goto C0 93 dX4_sides_89 (by decide) ?_
            refine z_sub (lo1 := []) [] rfl ?_
            obtain rfl := h
            exact k_J15
      · have h := e_x12.symm
        refine z_icmp_ne C0 76 dX4_sides_69 (by decide) (fun c10 => ?_) (fun c10 => ?_)
        · have h := zif_t c10 h
          refine z_iconst (v := (0 : Int32)) C0 dX4_sides_76 (by decide) ?_
          refine z_sub (lo1 := [(0, .ref (zb g + a0))]) [1] rfl ?_
          obtain rfl := h
          exact k_J11
        · have h := zif_f (fun q => q c10) h
          refine z_iconst (v := (4 : Int32)) C0 dX4_sides_72 (by decide) ?_
          refine z_goto C0 77 dX4_sides_73 (by decide) ?_
          refine z_sub (lo1 := [(0, .ref (zb g + a0))]) [1] rfl ?_
          obtain rfl := h
          exact k_J11
    · have h := e_x8.symm
      refine z_icmp_ne C0 43 dX4_sides_36 (by decide) (fun c6 => ?_) (fun c6 => ?_)
      · have h := zif_t c6 h
        refine z_iconst (v := (0 : Int32)) C0 dX4_sides_43 (by decide) ?_
        refine z_sub (lo1 := [(0, .ref (zb g + a0))]) [1] rfl ?_
        obtain rfl := h
        exact k_J7
      · have h := zif_f (fun q => q c6) h
        refine z_iconst (v := (2 : Int32)) C0 dX4_sides_39 (by decide) ?_
        refine z_goto C0 44 dX4_sides_40 (by decide) ?_
        refine z_sub (lo1 := [(0, .ref (zb g + a0))]) [1] rfl ?_
        obtain rfl := h
        exact k_J7
  · have h := e_x3.symm
    refine z_if_ne C0 11 dX4_sides_4 (by decide) (fun c1 => ?_) (fun c1 => ?_)
    · have h := zif_t c1 h
      refine z_iconst (v := (0 : Int32)) C0 dX4_sides_11 (by decide) ?_
      obtain rfl := h
      exact k_J2
    · have h := zif_f (fun q => q c1) h
      refine z_iconst (v := (1 : Int32)) C0 dX4_sides_7 (by decide) ?_
      refine z_goto C0 12 dX4_sides_8 (by decide) ?_
      obtain rfl := h
      exact k_J2
def f_X4_launch_L47 (a0 : Nat) (a1 : Nat) : Nat → Int32 → zM → Option (zM)
  | 0, _, _ => none
  | n + 1, y12, μ13 =>
    if (5 : Int32) ≤ y12 then
      some μ13
    else
      zg (zin y12 5) <|
      zl (zup μ13 (a0 + 1) (y12.toNatClampNeg) (-1 : Int32)) fun μ16 =>
      zl (y12 + (1 : Int32)) fun x17 =>
      f_X4_launch_L47 a0 a1 n x17 μ16
def f_X4_launch_L67 (a0 : Nat) (a1 : Nat) : Nat → Int32 → zM → Option (zM)
  | 0, _, _ => none
  | n + 1, y21, μ22 =>
    if (16 : Int32) ≤ y21 then
      some μ22
    else
      zg (zin y21 16) <|
      zl (zup μ22 (a0 + 2) (y21.toNatClampNeg) (0 : Int32)) fun μ25 =>
      zl (y21 + (1 : Int32)) fun x26 =>
      f_X4_launch_L67 a0 a1 n x26 μ25
def f_X4_launch (a0 : Nat) (a1 : Nat) (a2 : Nat) (μ : zM) : Option (zM) :=
  zl (zup μ a0 0 (nI a1)) fun μ1 =>
  zl (zup μ1 a0 1 (nI a2)) fun μ2 =>
  zl (zup μ2 a0 4 (0 : Int32)) fun μ3 =>
  zl (zup μ3 a0 5 (0 : Int32)) fun μ4 =>
  zl (zup μ4 a0 7 (0 : Int32)) fun μ5 =>
  zl (zup μ5 a0 8 (0 : Int32)) fun μ6 =>
  zl (zup μ6 a0 9 (0 : Int32)) fun μ7 =>
  zl (zup μ7 a0 10 (-1 : Int32)) fun μ8 =>
  zl (zup μ8 a0 11 (0 : Int32)) fun μ9 =>
  zbd (f_X4_launch_L47 a0 a1 zFU (0 : Int32) μ9) fun μ18 =>
  zbd (f_X4_launch_L67 a0 a1 zFU (0 : Int32) μ18) fun μ27 =>
  zl (f_X4_putAt a0 (μ27 (a1 + 1) 4) (μ27 (a1 + 1) 5) μ27) fun μ28 =>
  zbd (f_X4_sides a0 μ28) fun r29 =>
  zl (zup μ28 a0 6 r29) fun μ30 =>
  some μ30
set_option maxHeartbeats 4000000 in
set_option maxRecDepth 100000 in
theorem r_X4_launch_L47 {l : Launch} {g : zL} {p : Program} {e : Env} {s : State} {m : MethodId} {args : Array Value} {below : List Frame} {meth : Method} {c : Code} {Q : State → Prop} (C0 : zC p s m args meth c g cX4_launch yX4_launch 4 none) (a0 : Nat) (a1 : Nat) (hU10 : zT zNN zσ1 a0 4) (hU11 : zT zNN zσ1 a1 1) : ∀ (n : Nat) (y12 : Int32) (μ13 : zM) (μ18 : zM), f_X4_launch_L47 a0 a1 n y12 μ13 = some μ18 → Z p l e (zrm 2 0 0) s m args below meth c g Q 4 zNN 0 0 zσ1 μ18 65 [(0, .ref (zb g + a0)), (1, .ref (zb g + a1))] [] → Z p l e (zrm 2 0 0) s m args below meth c g Q 4 zNN 0 0 zσ1 μ13 47 [(0, .ref (zb g + a0)), (1, .ref (zb g + a1)), (3, .int y12)] [] := by
  intro n
  induction n with
  | zero =>
    intro y12 μ13 μ18 h kx
    rw [f_X4_launch_L47] at h
    cases h
  | succ n ih =>
    intro y12 μ13 μ18 h kx
    rw [f_X4_launch_L47] at h
    refine z_iload_n C0 dX4_launch_47 rfl 2 rfl ?_
    refine z_iconst (v := (5 : Int32)) C0 dX4_launch_48 (by decide) ?_
    refine z_icmp_ge C0 65 dX4_launch_49 (by decide) (fun c14 => ?_) (fun c14 => ?_)
    · have h := zif_t c14 h
      refine z_sub (lo1 := [(0, .ref (zb g + a0)), (1, .ref (zb g + a1))]) [0, 1] rfl ?_
      obtain rfl := (Option.some.inj h)
      exact kx
    · have h := zif_f c14 h
      refine z_aload_n C0 dX4_launch_52 rfl 0 rfl ?_
      refine z_getr C0 hU10 kf_4_9 zr_4_12 zx_4 (zs_4_12 hU10).1 dX4_launch_53 ?_
      refine z_iload_n C0 dX4_launch_56 rfl 2 rfl ?_
      refine z_iconst (v := (-1 : Int32)) C0 dX4_launch_57 (by decide) ?_
      obtain ⟨g15, h⟩ := zg_of h
      obtain ⟨μ16, e_μ16, h⟩ := zl_of h
      refine z_iast C0 (zs_4_12 hU10).2 g15 rfl e_μ16 dX4_launch_58 ?_
      obtain ⟨x17, e_x17, h⟩ := zl_of h
      refine z_iinc (lo1 := [(3, .int x17), (0, .ref (zb g + a0)), (1, .ref (zb g + a1))]) C0 dX4_launch_59 2 rfl (by decide) e_x17.symm (by decide) rfl ?_
      refine z_goto C0 47 dX4_launch_62 (by decide) ?_
      refine z_sub (lo1 := [(0, .ref (zb g + a0)), (1, .ref (zb g + a1)), (3, .int x17)]) [1, 2, 0] rfl ?_
      exact ih _ _ _ h kx
set_option maxHeartbeats 4000000 in
set_option maxRecDepth 100000 in
theorem r_X4_launch_L67 {l : Launch} {g : zL} {p : Program} {e : Env} {s : State} {m : MethodId} {args : Array Value} {below : List Frame} {meth : Method} {c : Code} {Q : State → Prop} (C0 : zC p s m args meth c g cX4_launch yX4_launch 4 none) (a0 : Nat) (a1 : Nat) (hU19 : zT zNN zσ1 a0 4) (hU20 : zT zNN zσ1 a1 1) : ∀ (n : Nat) (y21 : Int32) (μ22 : zM) (μ27 : zM), f_X4_launch_L67 a0 a1 n y21 μ22 = some μ27 → Z p l e (zrm 2 0 0) s m args below meth c g Q 4 zNN 0 0 zσ1 μ27 86 [(0, .ref (zb g + a0)), (1, .ref (zb g + a1))] [] → Z p l e (zrm 2 0 0) s m args below meth c g Q 4 zNN 0 0 zσ1 μ22 67 [(0, .ref (zb g + a0)), (1, .ref (zb g + a1)), (3, .int y21)] [] := by
  intro n
  induction n with
  | zero =>
    intro y21 μ22 μ27 h kx
    rw [f_X4_launch_L67] at h
    cases h
  | succ n ih =>
    intro y21 μ22 μ27 h kx
    rw [f_X4_launch_L67] at h
    refine z_iload_n C0 dX4_launch_67 rfl 2 rfl ?_
    refine z_bipush (v := (16 : Int32)) C0 dX4_launch_68 (by decide) ?_
    refine z_icmp_ge C0 86 dX4_launch_70 (by decide) (fun c23 => ?_) (fun c23 => ?_)
    · have h := zif_t c23 h
      refine z_sub (lo1 := [(0, .ref (zb g + a0)), (1, .ref (zb g + a1))]) [0, 1] rfl ?_
      obtain rfl := (Option.some.inj h)
      exact kx
    · have h := zif_f c23 h
      refine z_aload_n C0 dX4_launch_73 rfl 0 rfl ?_
      refine z_getr C0 hU19 kf_4_15 zr_4_13 zx_4 (zs_4_13 hU19).1 dX4_launch_74 ?_
      refine z_iload_n C0 dX4_launch_77 rfl 2 rfl ?_
      refine z_iconst (v := (0 : Int32)) C0 dX4_launch_78 (by decide) ?_
      obtain ⟨g24, h⟩ := zg_of h
      obtain ⟨μ25, e_μ25, h⟩ := zl_of h
      refine z_iast C0 (zs_4_13 hU19).2 g24 rfl e_μ25 dX4_launch_79 ?_
      obtain ⟨x26, e_x26, h⟩ := zl_of h
      refine z_iinc (lo1 := [(3, .int x26), (0, .ref (zb g + a0)), (1, .ref (zb g + a1))]) C0 dX4_launch_80 2 rfl (by decide) e_x26.symm (by decide) rfl ?_
      refine z_goto C0 67 dX4_launch_83 (by decide) ?_
      refine z_sub (lo1 := [(0, .ref (zb g + a0)), (1, .ref (zb g + a1)), (3, .int x26)]) [1, 2, 0] rfl ?_
      exact ih _ _ _ h kx
set_option maxHeartbeats 4000000 in
set_option maxRecDepth 100000 in
theorem r_X4_launch {l : Launch} {g : zL} (a0 : Nat) (a1 : Nat) (a2 : Nat) (μ : zM) (hT0 : zT zNN zσ1 a0 4) (hT1 : zT zNN zσ1 a1 1) (hT2 : zT zNN zσ1 a2 1) {μr : zM} (h : f_X4_launch a0 a1 a2 μ = some μr) : zMet l g yX4_launch cX4_launch 4 none 2 0 0 zNN zNN zσ1 zσ1 [.ref (zb g + a0), .ref (zb g + a1), .ref (zb g + a2)] μ none μr := by
  refine zMet.of (by decide +kernel) (Nat.le_of_ble_eq_true rfl) ?_
  intro p e s m args below meth c C0
  refine z_loc (lo1 := [(0, .ref (zb g + a0)), (1, .ref (zb g + a1)), (2, .ref (zb g + a2))]) rfl ?_
  unfold f_X4_launch at h
  refine z_aload_n C0 dX4_launch_0 rfl 0 rfl ?_
  refine z_aload_n C0 dX4_launch_1 rfl 1 rfl ?_
  obtain ⟨μ1, e_μ1, h⟩ := zl_of h
  refine z_putd C0 hT0.1 hT0.2.2.1 kf_4_18 zp_4_0 zr_4_0 (fun _ => ⟨rfl, rfl⟩) rfl (Nat.lt_trans hT1.2.2.1 (by decide)) e_μ1 dX4_launch_2 ?_
  refine z_aload_n C0 dX4_launch_5 rfl 0 rfl ?_
  refine z_aload_n C0 dX4_launch_6 rfl 2 rfl ?_
  obtain ⟨μ2, e_μ2, h⟩ := zl_of h
  refine z_putd C0 hT0.1 hT0.2.2.1 kf_4_22 zp_4_1 zr_4_1 (fun _ => ⟨rfl, rfl⟩) rfl (Nat.lt_trans hT2.2.2.1 (by decide)) e_μ2 dX4_launch_7 ?_
  refine z_aload_n C0 dX4_launch_10 rfl 0 rfl ?_
  refine z_iconst (v := (0 : Int32)) C0 dX4_launch_11 (by decide) ?_
  obtain ⟨μ3, e_μ3, h⟩ := zl_of h
  refine z_puti C0 hT0.1 hT0.2.2.1 kf_4_25 zp_4_4 zr_4_4 e_μ3 dX4_launch_12 ?_
  refine z_aload_n C0 dX4_launch_15 rfl 0 rfl ?_
  refine z_iconst (v := (0 : Int32)) C0 dX4_launch_16 (by decide) ?_
  obtain ⟨μ4, e_μ4, h⟩ := zl_of h
  refine z_puti C0 hT0.1 hT0.2.2.1 kf_4_29 zp_4_5 zr_4_5 e_μ4 dX4_launch_17 ?_
  refine z_aload_n C0 dX4_launch_20 rfl 0 rfl ?_
  refine z_iconst (v := (0 : Int32)) C0 dX4_launch_21 (by decide) ?_
  obtain ⟨μ5, e_μ5, h⟩ := zl_of h
  refine z_putb C0 hT0.1 hT0.2.2.1 kf_4_32 zp_4_7 zr_4_7 (by decide) e_μ5 dX4_launch_22 ?_
  refine z_aload_n C0 dX4_launch_25 rfl 0 rfl ?_
  refine z_iconst (v := (0 : Int32)) C0 dX4_launch_26 (by decide) ?_
  obtain ⟨μ6, e_μ6, h⟩ := zl_of h
  refine z_putb C0 hT0.1 hT0.2.2.1 kf_4_36 zp_4_8 zr_4_8 (by decide) e_μ6 dX4_launch_27 ?_
  refine z_aload_n C0 dX4_launch_30 rfl 0 rfl ?_
  refine z_iconst (v := (0 : Int32)) C0 dX4_launch_31 (by decide) ?_
  obtain ⟨μ7, e_μ7, h⟩ := zl_of h
  refine z_putb C0 hT0.1 hT0.2.2.1 kf_4_39 zp_4_9 zr_4_9 (by decide) e_μ7 dX4_launch_32 ?_
  refine z_aload_n C0 dX4_launch_35 rfl 0 rfl ?_
  refine z_iconst (v := (-1 : Int32)) C0 dX4_launch_36 (by decide) ?_
  obtain ⟨μ8, e_μ8, h⟩ := zl_of h
  refine z_puti C0 hT0.1 hT0.2.2.1 kf_4_42 zp_4_10 zr_4_10 e_μ8 dX4_launch_37 ?_
  refine z_aload_n C0 dX4_launch_40 rfl 0 rfl ?_
  refine z_iconst (v := (0 : Int32)) C0 dX4_launch_41 (by decide) ?_
  obtain ⟨μ9, e_μ9, h⟩ := zl_of h
  refine z_puti C0 hT0.1 hT0.2.2.1 kf_4_45 zp_4_11 zr_4_11 e_μ9 dX4_launch_42 ?_
  refine z_iconst (v := (0 : Int32)) C0 dX4_launch_45 (by decide) ?_
  refine z_istore_n (lo1 := [(3, .int (0 : Int32)), (0, .ref (zb g + a0)), (1, .ref (zb g + a1)), (2, .ref (zb g + a2))]) C0 dX4_launch_46 rfl (by decide) rfl ?_
  refine z_sub (lo1 := [(0, .ref (zb g + a0)), (1, .ref (zb g + a1)), (3, .int (0 : Int32))]) [1, 2, 0] rfl ?_
  obtain ⟨μ18, e_μ18, h⟩ := zbd_of h
  refine r_X4_launch_L47 C0 a0 a1 hT0 hT1 zFU (0 : Int32) μ9 μ18 e_μ18 ?_
  refine z_iconst (v := (0 : Int32)) C0 dX4_launch_65 (by decide) ?_
  refine z_istore_n (lo1 := [(3, .int (0 : Int32)), (0, .ref (zb g + a0)), (1, .ref (zb g + a1))]) C0 dX4_launch_66 rfl (by decide) rfl ?_
  refine z_sub (lo1 := [(0, .ref (zb g + a0)), (1, .ref (zb g + a1)), (3, .int (0 : Int32))]) [1, 2, 0] rfl ?_
  obtain ⟨μ27, e_μ27, h⟩ := zbd_of h
  refine r_X4_launch_L67 C0 a0 a1 hT0 hT1 zFU (0 : Int32) μ18 μ27 e_μ27 ?_
  refine z_aload_n C0 dX4_launch_86 rfl 0 rfl ?_
  refine z_aload_n C0 dX4_launch_87 rfl 1 rfl ?_
  refine z_getr C0 hT1 kf_4_48 zr_1_0 zx_1 (zs_1_0 hT1).1 dX4_launch_88 ?_
  refine z_iconst (v := (4 : Int32)) C0 dX4_launch_91 (by decide) ?_
  refine z_iald (j := 4) C0 (zs_1_0 hT1).2 (by decide : zin (4 : Int32) 11 = true) (by decide) dX4_launch_92 ?_
  refine z_aload_n C0 dX4_launch_93 rfl 1 rfl ?_
  refine z_getr C0 hT1 kf_4_48 zr_1_0 zx_1 (zs_1_0 hT1).1 dX4_launch_94 ?_
  refine z_iconst (v := (5 : Int32)) C0 dX4_launch_97 (by decide) ?_
  refine z_iald (j := 5) C0 (zs_1_0 hT1).2 (by decide : zin (5 : Int32) 11 = true) (by decide) dX4_launch_98 ?_
  obtain ⟨μ28, e_μ28, h⟩ := zl_of h
  refine z_callV (As := [.int (μ27 (a1 + 1) 4), .int (μ27 (a1 + 1) 5)]) (rest := []) C0 rfl kc_X4_putAt km_RX4_53 (r_X4_putAt (l := l) (g := g) a0 (μ27 (a1 + 1) 4) (μ27 (a1 + 1) 5) μ27 hT0 e_μ28.symm) hT0.1 hT0.2.2.1 rfl (by decide) rfl (Nat.le_of_ble_eq_true rfl) (Nat.le_of_ble_eq_true rfl) (Nat.le_of_ble_eq_true rfl) (Nat.le_of_ble_eq_true rfl) (Nat.le_refl _) rfl rfl dX4_launch_99 ?_
  refine z_aload_n C0 dX4_launch_102 rfl 0 rfl ?_
  refine z_aload_n C0 dX4_launch_103 rfl 0 rfl ?_
  obtain ⟨r29, e_r29, h⟩ := zbd_of h
  refine z_callV (As := []) (rest := [.ref (zb g + a0)]) C0 rfl kc_X4_sides km_RX4_57 (r_X4_sides (l := l) (g := g) a0 μ28 hT0 e_r29) hT0.1 hT0.2.2.1 rfl (by decide) rfl (Nat.le_of_ble_eq_true rfl) (Nat.le_of_ble_eq_true rfl) (Nat.le_of_ble_eq_true rfl) (Nat.le_of_ble_eq_true rfl) (Nat.le_refl _) rfl rfl dX4_launch_104 ?_
  obtain ⟨μ30, e_μ30, h⟩ := zl_of h
  refine z_puti C0 hT0.1 hT0.2.2.1 kf_4_61 zp_4_6 zr_4_6 e_μ30 dX4_launch_107 ?_
  have h := Option.some.inj h
  obtain rfl := h
  exact z_vret C0 rfl dX4_launch_110
def f_X4_move (a0 : Nat) (v1 : Int32) (v2 : Int32) (μ : zM) : Option (zM) :=
  zbd (if v1 = 0 then
      some μ
    else
      zg (zgk (μ a0 1) 1) <|
      zg (zgk (μ a0 0) 1) <|
      zbd (f_X1_floats ((μ a0 1).toNatClampNeg) ((μ a0 0).toNatClampNeg) ((μ a0 2) + v1) (μ a0 3) μ) fun r15 =>
      if r15 = 0 then
        zl (zup μ a0 5 ((μ a0 5) + (1 : Int32))) fun μ17 =>
        some μ17
      else
        zl (zup μ a0 2 ((μ a0 2) + v1)) fun μ18 =>
        some μ18) fun μ19 =>
  zbd (if v2 = 0 then
      some μ19
    else
      zg (zgk (μ19 a0 1) 1) <|
      zg (zgk (μ19 a0 0) 1) <|
      zbd (f_X1_floats ((μ19 a0 1).toNatClampNeg) ((μ19 a0 0).toNatClampNeg) (μ19 a0 2) ((μ19 a0 3) + v2) μ19) fun r34 =>
      if r34 = 0 then
        zl (zup μ19 a0 5 ((μ19 a0 5) + (1 : Int32))) fun μ36 =>
        some μ36
      else
        zl (zup μ19 a0 3 ((μ19 a0 3) + v2)) fun μ37 =>
        some μ37) fun μ38 =>
  some μ38
set_option maxHeartbeats 4000000 in
set_option maxRecDepth 100000 in
theorem r_X4_move {l : Launch} {g : zL} (a0 : Nat) (v1 : Int32) (v2 : Int32) (μ : zM) (hT0 : zT zNN zσ1 a0 4) {μr : zM} (h : f_X4_move a0 v1 v2 μ = some μr) : zMet l g yX4_move cX4_move 3 none 2 0 0 zNN zNN zσ1 zσ1 [.ref (zb g + a0), .int v1, .int v2] μ none μr := by
  refine zMet.of (by decide +kernel) (Nat.le_of_ble_eq_true rfl) ?_
  intro p e s m args below meth c C0
  refine z_loc (lo1 := [(0, .ref (zb g + a0)), (1, .int v1), (2, .int v2)]) rfl ?_
  unfold f_X4_move at h
  refine z_iload_n C0 dX4_move_0 rfl 1 rfl ?_
  obtain ⟨μ19, e_μ19, h⟩ := zbd_of h
  refine z_join μ19 51 [(0, .ref (zb g + a0)), (2, .int v2)] [] ?_ (fun k_J12 => ?_)
  · refine z_iload_n C0 dX4_move_51 rfl 1 rfl ?_
    obtain ⟨μ38, e_μ38, h⟩ := zbd_of h
    refine z_join μ38 102 [] [] ?_ (fun k_J31 => ?_)
    · have h := Option.some.inj h
      obtain rfl := h
      exact z_vret C0 rfl dX4_move_102
    · have h := e_μ38
      refine z_if_eq C0 102 dX4_move_52 (by decide) (fun c20 => ?_) (fun c20 => ?_)
      · have h := zif_t c20 h
        refine z_sub (lo1 := []) [] rfl ?_
        obtain rfl := (Option.some.inj h)
        exact k_J31
      · have h := zif_f c20 h
        refine z_aload_n C0 dX4_move_55 rfl 0 rfl ?_
        obtain ⟨g32, h⟩ := zg_of h
        refine z_getd C0 hT0.1 hT0.2.2.1 kf_4_22 zr_4_1 (zgk_T g32 (by decide)).1 dX4_move_56 ?_
        refine z_aload_n C0 dX4_move_59 rfl 0 rfl ?_
        obtain ⟨g33, h⟩ := zg_of h
        refine z_getd C0 hT0.1 hT0.2.2.1 kf_4_18 zr_4_0 (zgk_T g33 (by decide)).1 dX4_move_60 ?_
        refine z_aload_n C0 dX4_move_63 rfl 0 rfl ?_
        refine z_geti C0 hT0.1 hT0.2.2.1 kf_4_64 zr_4_2 dX4_move_64 ?_
        refine z_aload_n C0 dX4_move_67 rfl 0 rfl ?_
        refine z_geti C0 hT0.1 hT0.2.2.1 kf_4_67 zr_4_3 dX4_move_68 ?_
        refine z_iload_n C0 dX4_move_71 rfl 1 rfl ?_
        refine z_iadd C0 dX4_move_72 ?_
        obtain ⟨r34, e_r34, h⟩ := zbd_of h
        refine z_callV (As := [.ref (zb g + ((μ19 a0 0).toNatClampNeg)), .int (μ19 a0 2), .int ((μ19 a0 3) + v2)]) (rest := []) C0 rfl kc_X1_floats km_RX4_130 (r_X1_floats (l := l) (g := g) ((μ19 a0 1).toNatClampNeg) ((μ19 a0 0).toNatClampNeg) (μ19 a0 2) ((μ19 a0 3) + v2) μ19 (zgk_T g32 (by decide)).2 (zgk_T g33 (by decide)).2 e_r34) (zgk_T g32 (by decide)).2.1 (zgk_T g32 (by decide)).2.2.2.1 rfl (by decide) rfl (Nat.le_of_ble_eq_true rfl) (Nat.le_of_ble_eq_true rfl) (Nat.le_of_ble_eq_true rfl) (Nat.le_of_ble_eq_true rfl) (Nat.le_refl _) rfl rfl dX4_move_73 ?_
        refine z_if_eq C0 92 dX4_move_76 (by decide) (fun c35 => ?_) (fun c35 => ?_)
        · have h := zif_t c35 h
          refine z_aload_n C0 dX4_move_92 rfl 0 rfl ?_
          refine z_dup C0 dX4_move_93 rfl ?_
          refine z_geti C0 hT0.1 hT0.2.2.1 kf_4_29 zr_4_5 dX4_move_94 ?_
          refine z_iconst (v := (1 : Int32)) C0 dX4_move_97 (by decide) ?_
          refine z_iadd C0 dX4_move_98 ?_
          obtain ⟨μ36, e_μ36, h⟩ := zl_of h
          refine z_puti C0 hT0.1 hT0.2.2.1 kf_4_29 zp_4_5 zr_4_5 e_μ36 dX4_move_99 ?_
          refine z_sub (lo1 := []) [] rfl ?_
          obtain rfl := (Option.some.inj h)
          exact k_J31
        · have h := zif_f c35 h
          refine z_aload_n C0 dX4_move_79 rfl 0 rfl ?_
          refine z_dup C0 dX4_move_80 rfl ?_
          refine z_geti C0 hT0.1 hT0.2.2.1 kf_4_67 zr_4_3 dX4_move_81 ?_
          refine z_iload_n C0 dX4_move_84 rfl 1 rfl ?_
          refine z_iadd C0 dX4_move_85 ?_
          obtain ⟨μ37, e_μ37, h⟩ := zl_of h
          refine z_puti C0 hT0.1 hT0.2.2.1 kf_4_67 zp_4_3 zr_4_3 e_μ37 dX4_move_86 ?_
          refine z_goto C0 102 dX4_move_89 (by decide) ?_
          refine z_sub (lo1 := []) [] rfl ?_
          obtain rfl := (Option.some.inj h)
          exact k_J31
  · have h := e_μ19
    refine z_if_eq C0 51 dX4_move_1 (by decide) (fun c1 => ?_) (fun c1 => ?_)
    · have h := zif_t c1 h
      refine z_sub (lo1 := [(0, .ref (zb g + a0)), (2, .int v2)]) [0, 2] rfl ?_
      obtain rfl := (Option.some.inj h)
      exact k_J12
    · have h := zif_f c1 h
      refine z_aload_n C0 dX4_move_4 rfl 0 rfl ?_
      obtain ⟨g13, h⟩ := zg_of h
      refine z_getd C0 hT0.1 hT0.2.2.1 kf_4_22 zr_4_1 (zgk_T g13 (by decide)).1 dX4_move_5 ?_
      refine z_aload_n C0 dX4_move_8 rfl 0 rfl ?_
      obtain ⟨g14, h⟩ := zg_of h
      refine z_getd C0 hT0.1 hT0.2.2.1 kf_4_18 zr_4_0 (zgk_T g14 (by decide)).1 dX4_move_9 ?_
      refine z_aload_n C0 dX4_move_12 rfl 0 rfl ?_
      refine z_geti C0 hT0.1 hT0.2.2.1 kf_4_64 zr_4_2 dX4_move_13 ?_
      refine z_iload_n C0 dX4_move_16 rfl 1 rfl ?_
      refine z_iadd C0 dX4_move_17 ?_
      refine z_aload_n C0 dX4_move_18 rfl 0 rfl ?_
      refine z_geti C0 hT0.1 hT0.2.2.1 kf_4_67 zr_4_3 dX4_move_19 ?_
      obtain ⟨r15, e_r15, h⟩ := zbd_of h
      refine z_callV (As := [.ref (zb g + ((μ a0 0).toNatClampNeg)), .int ((μ a0 2) + v1), .int (μ a0 3)]) (rest := []) C0 rfl kc_X1_floats km_RX4_130 (r_X1_floats (l := l) (g := g) ((μ a0 1).toNatClampNeg) ((μ a0 0).toNatClampNeg) ((μ a0 2) + v1) (μ a0 3) μ (zgk_T g13 (by decide)).2 (zgk_T g14 (by decide)).2 e_r15) (zgk_T g13 (by decide)).2.1 (zgk_T g13 (by decide)).2.2.2.1 rfl (by decide) rfl (Nat.le_of_ble_eq_true rfl) (Nat.le_of_ble_eq_true rfl) (Nat.le_of_ble_eq_true rfl) (Nat.le_of_ble_eq_true rfl) (Nat.le_refl _) rfl rfl dX4_move_22 ?_
      refine z_if_eq C0 41 dX4_move_25 (by decide) (fun c16 => ?_) (fun c16 => ?_)
      · have h := zif_t c16 h
        refine z_aload_n C0 dX4_move_41 rfl 0 rfl ?_
        refine z_dup C0 dX4_move_42 rfl ?_
        refine z_geti C0 hT0.1 hT0.2.2.1 kf_4_29 zr_4_5 dX4_move_43 ?_
        refine z_iconst (v := (1 : Int32)) C0 dX4_move_46 (by decide) ?_
        refine z_iadd C0 dX4_move_47 ?_
        obtain ⟨μ17, e_μ17, h⟩ := zl_of h
        refine z_puti C0 hT0.1 hT0.2.2.1 kf_4_29 zp_4_5 zr_4_5 e_μ17 dX4_move_48 ?_
        refine z_sub (lo1 := [(0, .ref (zb g + a0)), (2, .int v2)]) [0, 2] rfl ?_
        obtain rfl := (Option.some.inj h)
        exact k_J12
      · have h := zif_f c16 h
        refine z_aload_n C0 dX4_move_28 rfl 0 rfl ?_
        refine z_dup C0 dX4_move_29 rfl ?_
        refine z_geti C0 hT0.1 hT0.2.2.1 kf_4_64 zr_4_2 dX4_move_30 ?_
        refine z_iload_n C0 dX4_move_33 rfl 1 rfl ?_
        refine z_iadd C0 dX4_move_34 ?_
        obtain ⟨μ18, e_μ18, h⟩ := zl_of h
        refine z_puti C0 hT0.1 hT0.2.2.1 kf_4_64 zp_4_2 zr_4_2 e_μ18 dX4_move_35 ?_
        refine z_goto C0 51 dX4_move_38 (by decide) ?_
        refine z_sub (lo1 := [(0, .ref (zb g + a0)), (2, .int v2)]) [0, 2] rfl ?_
        obtain rfl := (Option.some.inj h)
        exact k_J12
def f_X4_afterSeed (v0 : Int32) : Int32 :=
  ((v0 * (1103515245 : Int32)) + (12345 : Int32))
set_option maxHeartbeats 4000000 in
set_option maxRecDepth 100000 in
theorem r_X4_afterSeed {l : Launch} {g : zL} (v0 : Int32) {μ : zM}  {rv : Int32} (h : f_X4_afterSeed v0 = rv) : zMet l g yX4_afterSeed cX4_afterSeed 1 (some (.int)) 0 0 0 zNN zNN zσ1 zσ1 [.int v0] μ (some (.int rv)) μ := by
  refine zMet.of (by decide +kernel) (Nat.le_of_ble_eq_true rfl) ?_
  intro p e s m args below meth c C0
  refine z_loc (lo1 := [(0, .int v0)]) rfl ?_
  unfold f_X4_afterSeed at h
  refine z_iload_n C0 dX4_afterSeed_0 rfl 0 rfl ?_
  refine z_ldc C0 dX4_afterSeed_1 kk_RX4_193 ?_
  refine z_imul C0 dX4_afterSeed_3 ?_
  refine z_sipush (v := (12345 : Int32)) C0 dX4_afterSeed_4 (by decide) ?_
  refine z_iadd C0 dX4_afterSeed_7 ?_
  skip
  obtain rfl := h
  exact z_iret C0 rfl dX4_afterSeed_8
def f_X4_calms (a0 : Nat) (μ : zM) : Int32 × zM :=
  if ¬ (μ a0 10) = (-1 : Int32) then
    zl (zup μ a0 10 (-1 : Int32)) fun μ2 =>
    zl (zup μ2 a0 11 (0 : Int32)) fun μ3 =>
    ((1 : Int32), μ3)
  else
    ((0 : Int32), μ)
set_option maxHeartbeats 4000000 in
set_option maxRecDepth 100000 in
theorem r_X4_calms {l : Launch} {g : zL} (a0 : Nat) (μ : zM) (hT0 : zT zNN zσ1 a0 4) {rv : Int32} {μr : zM} (h : f_X4_calms a0 μ = (rv, μr)) : zMet l g yX4_calms cX4_calms 1 (some (.boolean)) 0 0 0 zNN zNN zσ1 zσ1 [.ref (zb g + a0)] μ (some (.int rv)) μr := by
  refine zMet.of (by decide +kernel) (Nat.le_of_ble_eq_true rfl) ?_
  intro p e s m args below meth c C0
  refine z_loc (lo1 := [(0, .ref (zb g + a0))]) rfl ?_
  unfold f_X4_calms at h
  refine z_aload_n C0 dX4_calms_0 rfl 0 rfl ?_
  refine z_geti C0 hT0.1 hT0.2.2.1 kf_4_42 zr_4_10 dX4_calms_1 ?_
  refine z_iconst (v := (-1 : Int32)) C0 dX4_calms_4 (by decide) ?_
  refine z_icmp_ne C0 10 dX4_calms_5 (by decide) (fun c1 => ?_) (fun c1 => ?_)
  · have h := zif_t c1 h
    refine z_aload_n C0 dX4_calms_10 rfl 0 rfl ?_
    refine z_iconst (v := (-1 : Int32)) C0 dX4_calms_11 (by decide) ?_
    obtain ⟨μ2, e_μ2, h⟩ := zl_of h
    refine z_puti C0 hT0.1 hT0.2.2.1 kf_4_42 zp_4_10 zr_4_10 e_μ2 dX4_calms_12 ?_
    refine z_aload_n C0 dX4_calms_15 rfl 0 rfl ?_
    refine z_iconst (v := (0 : Int32)) C0 dX4_calms_16 (by decide) ?_
    obtain ⟨μ3, e_μ3, h⟩ := zl_of h
    refine z_puti C0 hT0.1 hT0.2.2.1 kf_4_45 zp_4_11 zr_4_11 e_μ3 dX4_calms_17 ?_
    refine z_iconst (v := (1 : Int32)) C0 dX4_calms_20 (by decide) ?_
    skip
    obtain ⟨rfl, rfl⟩ := Prod.mk.inj h
    exact z_zret C0 rfl (by decide) dX4_calms_21
  · have h := zif_f (fun q => q c1) h
    refine z_iconst (v := (0 : Int32)) C0 dX4_calms_8 (by decide) ?_
    skip
    obtain ⟨rfl, rfl⟩ := Prod.mk.inj h
    exact z_zret C0 rfl (by decide) dX4_calms_9
def f_X4_listAlong_L11 (a0 : Nat) (v1 : Int32) (μ6 : zM) : Nat → Int32 → Int32 → Option (Int32)
  | 0, _, _ => none
  | n + 1, y4, y5 =>
    if (5 : Int32) ≤ y5 then
      some y4
    else
      zg (zin y5 5) <|
      zbd (if (μ6 (a0 + 1) (y5.toNatClampNeg)) = (-1 : Int32) then
          some y4
        else
          zg (zgk (μ6 a0 0) 1) <|
          zbd (f_X6_number (((μ6 a0 0).toNatClampNeg) + 8) y5 (0 : Int32) μ6) fun r16 =>
          zbd (f_X1_arm ((μ6 a0 0).toNatClampNeg) (μ6 (a0 + 1) (y5.toNatClampNeg)) v1 μ6) fun r17 =>
          zl (y4 + (r16 * r17)) fun x18 =>
          some x18) fun x19 =>
      zl (y5 + (1 : Int32)) fun x20 =>
      f_X4_listAlong_L11 a0 v1 μ6 n x19 x20
def f_X4_listAlong_L64 (a0 : Nat) (v1 : Int32) (μ25 : zM) : Nat → Int32 → Int32 → Option (Int32)
  | 0, _, _ => none
  | n + 1, y23, y24 =>
    if (16 : Int32) ≤ y24 then
      some y23
    else
      zg (zin y24 16) <|
      zbd (if (μ25 (a0 + 2) (y24.toNatClampNeg)) = 0 then
          some y23
        else
          zg (zgk (μ25 a0 0) 1) <|
          zbd (f_X1_arm ((μ25 a0 0).toNatClampNeg) y24 v1 μ25) fun r35 =>
          zl (y23 + ((μ25 (a0 + 2) (y24.toNatClampNeg)) * r35)) fun x36 =>
          some x36) fun x37 =>
      zl (y24 + (1 : Int32)) fun x38 =>
      f_X4_listAlong_L64 a0 v1 μ25 n x37 x38
def f_X4_listAlong (a0 : Nat) (v1 : Int32) (μ : zM) : Option (Int32) :=
  zg (zgk (μ a0 0) 1) <|
  zl (f_X1_graveList ((μ a0 0).toNatClampNeg) v1 μ) fun x2 =>
  zbd (f_X4_listAlong_L11 a0 v1 μ zFU x2 (0 : Int32)) fun x21 =>
  zbd (f_X4_listAlong_L64 a0 v1 μ zFU x21 (0 : Int32)) fun x39 =>
  some x39
set_option maxHeartbeats 4000000 in
set_option maxRecDepth 100000 in
theorem r_X4_listAlong_L11 {l : Launch} {g : zL} {p : Program} {e : Env} {s : State} {m : MethodId} {args : Array Value} {below : List Frame} {meth : Method} {c : Code} {Q : State → Prop} (C0 : zC p s m args meth c g cX4_listAlong yX4_listAlong 4 (some (.int))) (a0 : Nat) (v1 : Int32) (μ6 : zM) (hU3 : zT zNN zσ1 a0 4) : ∀ (n : Nat) (y4 : Int32) (y5 : Int32) (x21 : Int32), f_X4_listAlong_L11 a0 v1 μ6 n y4 y5 = some x21 → Z p l e (zrm 1 0 0) s m args below meth c g Q 4 zNN 0 0 zσ1 μ6 62 [(0, .ref (zb g + a0)), (1, .int v1), (2, .int x21)] [] → Z p l e (zrm 1 0 0) s m args below meth c g Q 4 zNN 0 0 zσ1 μ6 11 [(0, .ref (zb g + a0)), (1, .int v1), (2, .int y4), (3, .int y5)] [] := by
  intro n
  induction n with
  | zero =>
    intro y4 y5 x21 h kx
    rw [f_X4_listAlong_L11] at h
    cases h
  | succ n ih =>
    intro y4 y5 x21 h kx
    rw [f_X4_listAlong_L11] at h
    refine z_iload_n C0 dX4_listAlong_11 rfl 3 rfl ?_
    refine z_iconst (v := (5 : Int32)) C0 dX4_listAlong_12 (by decide) ?_
    refine z_icmp_ge C0 62 dX4_listAlong_13 (by decide) (fun c7 => ?_) (fun c7 => ?_)
    · have h := zif_t c7 h
      refine z_sub (lo1 := [(0, .ref (zb g + a0)), (1, .int v1), (2, .int y4)]) [0, 1, 2] rfl ?_
      obtain rfl := (Option.some.inj h)
      exact kx
    · have h := zif_f c7 h
      refine z_aload_n C0 dX4_listAlong_16 rfl 0 rfl ?_
      refine z_getr C0 hU3 kf_4_9 zr_4_12 zx_4 (zs_4_12 hU3).1 dX4_listAlong_17 ?_
      refine z_iload_n C0 dX4_listAlong_20 rfl 3 rfl ?_
      obtain ⟨g12, h⟩ := zg_of h
      refine z_iald C0 (zs_4_12 hU3).2 g12 rfl dX4_listAlong_21 ?_
      refine z_iconst (v := (-1 : Int32)) C0 dX4_listAlong_22 (by decide) ?_
      obtain ⟨x19, e_x19, h⟩ := zbd_of h
      refine z_join μ6 56 [(0, .ref (zb g + a0)), (1, .int v1), (2, .int x19), (3, .int y5)] [] ?_ (fun k_J14 => ?_)
      · obtain ⟨x20, e_x20, h⟩ := zl_of h
        refine z_iinc (lo1 := [(3, .int x20), (0, .ref (zb g + a0)), (1, .int v1), (2, .int x19)]) C0 dX4_listAlong_56 3 rfl (by decide) e_x20.symm (by decide) rfl ?_
        refine z_goto C0 11 dX4_listAlong_59 (by decide) ?_
        refine z_sub (lo1 := [(0, .ref (zb g + a0)), (1, .int v1), (2, .int x19), (3, .int x20)]) [1, 2, 3, 0] rfl ?_
        exact ih _ _ _ h kx
      · have h := e_x19
        refine z_icmp_eq C0 56 dX4_listAlong_23 (by decide) (fun c13 => ?_) (fun c13 => ?_)
        · have h := zif_t c13 h
          obtain rfl := (Option.some.inj h)
          exact k_J14
        · have h := zif_f c13 h
          refine z_iload_n C0 dX4_listAlong_26 rfl 2 rfl ?_
          refine z_aload_n C0 dX4_listAlong_27 rfl 0 rfl ?_
          obtain ⟨g15, h⟩ := zg_of h
          refine z_getd C0 hU3.1 hU3.2.2.1 kf_4_18 zr_4_0 (zgk_T g15 (by decide)).1 dX4_listAlong_28 ?_
          refine z_getr C0 (zgk_T g15 (by decide)).2 kf_4_77 zr_1_4 zx_1 (zs_1_4 (zgk_T g15 (by decide)).2).1 dX4_listAlong_31 ?_
          refine z_iload_n C0 dX4_listAlong_34 rfl 3 rfl ?_
          refine z_iconst (v := (0 : Int32)) C0 dX4_listAlong_35 (by decide) ?_
          obtain ⟨r16, e_r16, h⟩ := zbd_of h
          refine z_callV (As := [.int y5, .int (0 : Int32)]) (rest := [.int y4]) C0 rfl kc_X6_number km_RX4_99 (r_X6_number (l := l) (g := g) (((μ6 a0 0).toNatClampNeg) + 8) y5 (0 : Int32) μ6 (zs_1_4 (zgk_T g15 (by decide)).2).2 e_r16) (zs_1_4 (zgk_T g15 (by decide)).2).2.1 (zs_1_4 (zgk_T g15 (by decide)).2).2.2.2.1 rfl (by decide) rfl (Nat.le_of_ble_eq_true rfl) (Nat.le_of_ble_eq_true rfl) (Nat.le_of_ble_eq_true rfl) (Nat.le_of_ble_eq_true rfl) (Nat.le_refl _) rfl rfl dX4_listAlong_36 ?_
          refine z_aload_n C0 dX4_listAlong_39 rfl 0 rfl ?_
          refine z_getd C0 hU3.1 hU3.2.2.1 kf_4_18 zr_4_0 (zgk_T g15 (by decide)).1 dX4_listAlong_40 ?_
          refine z_aload_n C0 dX4_listAlong_43 rfl 0 rfl ?_
          refine z_getr C0 hU3 kf_4_9 zr_4_12 zx_4 (zs_4_12 hU3).1 dX4_listAlong_44 ?_
          refine z_iload_n C0 dX4_listAlong_47 rfl 3 rfl ?_
          refine z_iald C0 (zs_4_12 hU3).2 g12 rfl dX4_listAlong_48 ?_
          refine z_iload_n C0 dX4_listAlong_49 rfl 1 rfl ?_
          obtain ⟨r17, e_r17, h⟩ := zbd_of h
          refine z_callV (As := [.int (μ6 (a0 + 1) (y5.toNatClampNeg)), .int v1]) (rest := [.int r16, .int y4]) C0 rfl kc_X1_arm km_RX4_103 (r_X1_arm (l := l) (g := g) ((μ6 a0 0).toNatClampNeg) (μ6 (a0 + 1) (y5.toNatClampNeg)) v1 μ6 (zgk_T g15 (by decide)).2 e_r17) (zgk_T g15 (by decide)).2.1 (zgk_T g15 (by decide)).2.2.2.1 rfl (by decide) rfl (Nat.le_of_ble_eq_true rfl) (Nat.le_of_ble_eq_true rfl) (Nat.le_of_ble_eq_true rfl) (Nat.le_of_ble_eq_true rfl) (Nat.le_refl _) rfl rfl dX4_listAlong_50 ?_
          refine z_imul C0 dX4_listAlong_53 ?_
          refine z_iadd C0 dX4_listAlong_54 ?_
          obtain ⟨x18, e_x18, h⟩ := zl_of h
          refine z_nm e_x18 ?_
          refine z_istore_n (lo1 := [(2, .int x18), (0, .ref (zb g + a0)), (1, .int v1), (3, .int y5)]) C0 dX4_listAlong_55 rfl (by decide) rfl ?_
          refine z_sub (lo1 := [(0, .ref (zb g + a0)), (1, .int v1), (2, .int x18), (3, .int y5)]) [1, 2, 0, 3] rfl ?_
          obtain rfl := (Option.some.inj h)
          exact k_J14
set_option maxHeartbeats 4000000 in
set_option maxRecDepth 100000 in
theorem r_X4_listAlong_L64 {l : Launch} {g : zL} {p : Program} {e : Env} {s : State} {m : MethodId} {args : Array Value} {below : List Frame} {meth : Method} {c : Code} {Q : State → Prop} (C0 : zC p s m args meth c g cX4_listAlong yX4_listAlong 4 (some (.int))) (a0 : Nat) (v1 : Int32) (μ25 : zM) (hU22 : zT zNN zσ1 a0 4) : ∀ (n : Nat) (y23 : Int32) (y24 : Int32) (x39 : Int32), f_X4_listAlong_L64 a0 v1 μ25 n y23 y24 = some x39 → Z p l e (zrm 1 0 0) s m args below meth c g Q 4 zNN 0 0 zσ1 μ25 104 [(2, .int x39)] [] → Z p l e (zrm 1 0 0) s m args below meth c g Q 4 zNN 0 0 zσ1 μ25 64 [(0, .ref (zb g + a0)), (1, .int v1), (2, .int y23), (3, .int y24)] [] := by
  intro n
  induction n with
  | zero =>
    intro y23 y24 x39 h kx
    rw [f_X4_listAlong_L64] at h
    cases h
  | succ n ih =>
    intro y23 y24 x39 h kx
    rw [f_X4_listAlong_L64] at h
    refine z_iload_n C0 dX4_listAlong_64 rfl 3 rfl ?_
    refine z_bipush (v := (16 : Int32)) C0 dX4_listAlong_65 (by decide) ?_
    refine z_icmp_ge C0 104 dX4_listAlong_67 (by decide) (fun c26 => ?_) (fun c26 => ?_)
    · have h := zif_t c26 h
      refine z_sub (lo1 := [(2, .int y23)]) [2] rfl ?_
      obtain rfl := (Option.some.inj h)
      exact kx
    · have h := zif_f c26 h
      refine z_aload_n C0 dX4_listAlong_70 rfl 0 rfl ?_
      refine z_getr C0 hU22 kf_4_15 zr_4_13 zx_4 (zs_4_13 hU22).1 dX4_listAlong_71 ?_
      refine z_iload_n C0 dX4_listAlong_74 rfl 3 rfl ?_
      obtain ⟨g31, h⟩ := zg_of h
      refine z_iald C0 (zs_4_13 hU22).2 g31 rfl dX4_listAlong_75 ?_
      obtain ⟨x37, e_x37, h⟩ := zbd_of h
      refine z_join μ25 98 [(0, .ref (zb g + a0)), (1, .int v1), (2, .int x37), (3, .int y24)] [] ?_ (fun k_J33 => ?_)
      · obtain ⟨x38, e_x38, h⟩ := zl_of h
        refine z_iinc (lo1 := [(3, .int x38), (0, .ref (zb g + a0)), (1, .int v1), (2, .int x37)]) C0 dX4_listAlong_98 3 rfl (by decide) e_x38.symm (by decide) rfl ?_
        refine z_goto C0 64 dX4_listAlong_101 (by decide) ?_
        refine z_sub (lo1 := [(0, .ref (zb g + a0)), (1, .int v1), (2, .int x37), (3, .int x38)]) [1, 2, 3, 0] rfl ?_
        exact ih _ _ _ h kx
      · have h := e_x37
        refine z_if_eq C0 98 dX4_listAlong_76 (by decide) (fun c32 => ?_) (fun c32 => ?_)
        · have h := zif_t c32 h
          obtain rfl := (Option.some.inj h)
          exact k_J33
        · have h := zif_f c32 h
          refine z_iload_n C0 dX4_listAlong_79 rfl 2 rfl ?_
          refine z_aload_n C0 dX4_listAlong_80 rfl 0 rfl ?_
          refine z_getr C0 hU22 kf_4_15 zr_4_13 zx_4 (zs_4_13 hU22).1 dX4_listAlong_81 ?_
          refine z_iload_n C0 dX4_listAlong_84 rfl 3 rfl ?_
          refine z_iald C0 (zs_4_13 hU22).2 g31 rfl dX4_listAlong_85 ?_
          refine z_aload_n C0 dX4_listAlong_86 rfl 0 rfl ?_
          obtain ⟨g34, h⟩ := zg_of h
          refine z_getd C0 hU22.1 hU22.2.2.1 kf_4_18 zr_4_0 (zgk_T g34 (by decide)).1 dX4_listAlong_87 ?_
          refine z_iload_n C0 dX4_listAlong_90 rfl 3 rfl ?_
          refine z_iload_n C0 dX4_listAlong_91 rfl 1 rfl ?_
          obtain ⟨r35, e_r35, h⟩ := zbd_of h
          refine z_callV (As := [.int y24, .int v1]) (rest := [.int (μ25 (a0 + 2) (y24.toNatClampNeg)), .int y23]) C0 rfl kc_X1_arm km_RX4_103 (r_X1_arm (l := l) (g := g) ((μ25 a0 0).toNatClampNeg) y24 v1 μ25 (zgk_T g34 (by decide)).2 e_r35) (zgk_T g34 (by decide)).2.1 (zgk_T g34 (by decide)).2.2.2.1 rfl (by decide) rfl (Nat.le_of_ble_eq_true rfl) (Nat.le_of_ble_eq_true rfl) (Nat.le_of_ble_eq_true rfl) (Nat.le_of_ble_eq_true rfl) (Nat.le_refl _) rfl rfl dX4_listAlong_92 ?_
          refine z_imul C0 dX4_listAlong_95 ?_
          refine z_iadd C0 dX4_listAlong_96 ?_
          obtain ⟨x36, e_x36, h⟩ := zl_of h
          refine z_nm e_x36 ?_
          refine z_istore_n (lo1 := [(2, .int x36), (0, .ref (zb g + a0)), (1, .int v1), (3, .int y24)]) C0 dX4_listAlong_97 rfl (by decide) rfl ?_
          refine z_sub (lo1 := [(0, .ref (zb g + a0)), (1, .int v1), (2, .int x36), (3, .int y24)]) [1, 2, 0, 3] rfl ?_
          obtain rfl := (Option.some.inj h)
          exact k_J33
set_option maxHeartbeats 4000000 in
set_option maxRecDepth 100000 in
theorem r_X4_listAlong {l : Launch} {g : zL} (a0 : Nat) (v1 : Int32) (μ : zM) (hT0 : zT zNN zσ1 a0 4) {rv : Int32} (h : f_X4_listAlong a0 v1 μ = some rv) : zMet l g yX4_listAlong cX4_listAlong 4 (some (.int)) 1 0 0 zNN zNN zσ1 zσ1 [.ref (zb g + a0), .int v1] μ (some (.int rv)) μ := by
  refine zMet.of (by decide +kernel) (Nat.le_of_ble_eq_true rfl) ?_
  intro p e s m args below meth c C0
  refine z_loc (lo1 := [(0, .ref (zb g + a0)), (1, .int v1)]) rfl ?_
  unfold f_X4_listAlong at h
  refine z_aload_n C0 dX4_listAlong_0 rfl 0 rfl ?_
  obtain ⟨g1, h⟩ := zg_of h
  refine z_getd C0 hT0.1 hT0.2.2.1 kf_4_18 zr_4_0 (zgk_T g1 (by decide)).1 dX4_listAlong_1 ?_
  refine z_iload_n C0 dX4_listAlong_4 rfl 1 rfl ?_
  refine z_callV (As := [.int v1]) (rest := []) C0 rfl kc_X1_graveList km_RX4_96 (r_X1_graveList (l := l) (g := g) ((μ a0 0).toNatClampNeg) v1 μ (zgk_T g1 (by decide)).2 rfl) (zgk_T g1 (by decide)).2.1 (zgk_T g1 (by decide)).2.2.2.1 rfl (by decide) rfl (Nat.le_of_ble_eq_true rfl) (Nat.le_of_ble_eq_true rfl) (Nat.le_of_ble_eq_true rfl) (Nat.le_of_ble_eq_true rfl) (Nat.le_refl _) rfl rfl dX4_listAlong_5 ?_
  obtain ⟨x2, e_x2, h⟩ := zl_of h
  refine z_nm e_x2 ?_
  refine z_istore_n (lo1 := [(2, .int x2), (0, .ref (zb g + a0)), (1, .int v1)]) C0 dX4_listAlong_8 rfl (by decide) rfl ?_
  refine z_iconst (v := (0 : Int32)) C0 dX4_listAlong_9 (by decide) ?_
  refine z_istore_n (lo1 := [(3, .int (0 : Int32)), (2, .int x2), (0, .ref (zb g + a0)), (1, .int v1)]) C0 dX4_listAlong_10 rfl (by decide) rfl ?_
  refine z_sub (lo1 := [(0, .ref (zb g + a0)), (1, .int v1), (2, .int x2), (3, .int (0 : Int32))]) [2, 3, 1, 0] rfl ?_
  obtain ⟨x21, e_x21, h⟩ := zbd_of h
  refine r_X4_listAlong_L11 C0 a0 v1 μ hT0 zFU x2 (0 : Int32) x21 e_x21 ?_
  refine z_iconst (v := (0 : Int32)) C0 dX4_listAlong_62 (by decide) ?_
  refine z_istore_n (lo1 := [(3, .int (0 : Int32)), (0, .ref (zb g + a0)), (1, .int v1), (2, .int x21)]) C0 dX4_listAlong_63 rfl (by decide) rfl ?_
  refine z_sub (lo1 := [(0, .ref (zb g + a0)), (1, .int v1), (2, .int x21), (3, .int (0 : Int32))]) [1, 2, 3, 0] rfl ?_
  obtain ⟨x39, e_x39, h⟩ := zbd_of h
  refine r_X4_listAlong_L64 C0 a0 v1 μ hT0 zFU x21 (0 : Int32) x39 e_x39 ?_
  refine z_iload_n C0 dX4_listAlong_104 rfl 0 rfl ?_
  have h := Option.some.inj h
  obtain rfl := h
  exact z_iret C0 rfl dX4_listAlong_105
def f_X4_axisOf (v0 : Int32) : Int32 :=
  zl (if (¬ (v0 = (1 : Int32))) ∧ (¬ v0 = (3 : Int32)) then
      (1 : Int32)
    else
      (0 : Int32)) fun x4 =>
  x4
set_option maxHeartbeats 4000000 in
set_option maxRecDepth 100000 in
theorem r_X4_axisOf {l : Launch} {g : zL} (v0 : Int32) {μ : zM}  {rv : Int32} (h : f_X4_axisOf v0 = rv) : zMet l g yX4_axisOf cX4_axisOf 1 (some (.int)) 0 0 0 zNN zNN zσ1 zσ1 [.int v0] μ (some (.int rv)) μ := by
  refine zMet.of (by decide +kernel) (Nat.le_of_ble_eq_true rfl) ?_
  intro p e s m args below meth c C0
  refine z_loc (lo1 := [(0, .int v0)]) rfl ?_
  unfold f_X4_axisOf at h
  refine z_iload_n C0 dX4_axisOf_0 rfl 0 rfl ?_
  refine z_iconst (v := (1 : Int32)) C0 dX4_axisOf_1 (by decide) ?_
  obtain ⟨x4, e_x4, h⟩ := zl_of h
  refine z_join μ 15 [] [.int x4] ?_ (fun k_J3 => ?_)
  · skip
    obtain rfl := h
    exact z_iret C0 rfl dX4_axisOf_15
  · have h := e_x4.symm
    by_cases hc5 : (¬ (v0 = (1 : Int32))) ∧ (¬ v0 = (3 : Int32))
    · have h := zif_t hc5 h
      refine z_join μ 14 [(0, .int v0)] [] ?_ (fun k6 => ?_)
      · refine z_iconst (v := (1 : Int32)) C0 dX4_axisOf_14 (by decide) ?_
        refine z_sub (lo1 := []) [] rfl ?_
        obtain rfl := h
        exact k_J3
      · refine z_icmp_eq C0 10 dX4_axisOf_2 (by decide) (fun c1 => ?_) (fun c1 => ?_)
        · exact absurd hc5 (fun q => q.1 c1)
        · refine z_iload_n C0 dX4_axisOf_5 rfl 0 rfl ?_
          refine z_iconst (v := (3 : Int32)) C0 dX4_axisOf_6 (by decide) ?_
          refine z_icmp_ne C0 14 dX4_axisOf_7 (by decide) (fun c2 => ?_) (fun c2 => ?_)
          · exact k6
          · exact absurd hc5 (fun q => (fun q => q c2) q.2)
    · have h := zif_f hc5 h
      refine z_join μ 10 [(0, .int v0)] [] ?_ (fun k7 => ?_)
      · refine z_iconst (v := (0 : Int32)) C0 dX4_axisOf_10 (by decide) ?_
        refine z_goto C0 15 dX4_axisOf_11 (by decide) ?_
        refine z_sub (lo1 := []) [] rfl ?_
        obtain rfl := h
        exact k_J3
      · refine z_icmp_eq C0 10 dX4_axisOf_2 (by decide) (fun c1 => ?_) (fun c1 => ?_)
        · exact k7
        · refine z_iload_n C0 dX4_axisOf_5 rfl 0 rfl ?_
          refine z_iconst (v := (3 : Int32)) C0 dX4_axisOf_6 (by decide) ?_
          refine z_icmp_ne C0 14 dX4_axisOf_7 (by decide) (fun c2 => ?_) (fun c2 => ?_)
          · exact absurd ⟨c1, c2⟩ hc5
          · exact k7
def f_X4_signOf (v0 : Int32) : Int32 :=
  zl (if (¬ (v0 = (1 : Int32))) ∧ (¬ v0 = (2 : Int32)) then
      (-1 : Int32)
    else
      (1 : Int32)) fun x4 =>
  x4
set_option maxHeartbeats 4000000 in
set_option maxRecDepth 100000 in
theorem r_X4_signOf {l : Launch} {g : zL} (v0 : Int32) {μ : zM}  {rv : Int32} (h : f_X4_signOf v0 = rv) : zMet l g yX4_signOf cX4_signOf 1 (some (.int)) 0 0 0 zNN zNN zσ1 zσ1 [.int v0] μ (some (.int rv)) μ := by
  refine zMet.of (by decide +kernel) (Nat.le_of_ble_eq_true rfl) ?_
  intro p e s m args below meth c C0
  refine z_loc (lo1 := [(0, .int v0)]) rfl ?_
  unfold f_X4_signOf at h
  refine z_iload_n C0 dX4_signOf_0 rfl 0 rfl ?_
  refine z_iconst (v := (1 : Int32)) C0 dX4_signOf_1 (by decide) ?_
  obtain ⟨x4, e_x4, h⟩ := zl_of h
  refine z_join μ 15 [] [.int x4] ?_ (fun k_J3 => ?_)
  · skip
    obtain rfl := h
    exact z_iret C0 rfl dX4_signOf_15
  · have h := e_x4.symm
    by_cases hc5 : (¬ (v0 = (1 : Int32))) ∧ (¬ v0 = (2 : Int32))
    · have h := zif_t hc5 h
      refine z_join μ 14 [(0, .int v0)] [] ?_ (fun k6 => ?_)
      · refine z_iconst (v := (-1 : Int32)) C0 dX4_signOf_14 (by decide) ?_
        refine z_sub (lo1 := []) [] rfl ?_
        obtain rfl := h
        exact k_J3
      · refine z_icmp_eq C0 10 dX4_signOf_2 (by decide) (fun c1 => ?_) (fun c1 => ?_)
        · exact absurd hc5 (fun q => q.1 c1)
        · refine z_iload_n C0 dX4_signOf_5 rfl 0 rfl ?_
          refine z_iconst (v := (2 : Int32)) C0 dX4_signOf_6 (by decide) ?_
          refine z_icmp_ne C0 14 dX4_signOf_7 (by decide) (fun c2 => ?_) (fun c2 => ?_)
          · exact k6
          · exact absurd hc5 (fun q => (fun q => q c2) q.2)
    · have h := zif_f hc5 h
      refine z_join μ 10 [(0, .int v0)] [] ?_ (fun k7 => ?_)
      · refine z_iconst (v := (1 : Int32)) C0 dX4_signOf_10 (by decide) ?_
        refine z_goto C0 15 dX4_signOf_11 (by decide) ?_
        refine z_sub (lo1 := []) [] rfl ?_
        obtain rfl := h
        exact k_J3
      · refine z_icmp_eq C0 10 dX4_signOf_2 (by decide) (fun c1 => ?_) (fun c1 => ?_)
        · exact k7
        · refine z_iload_n C0 dX4_signOf_5 rfl 0 rfl ?_
          refine z_iconst (v := (2 : Int32)) C0 dX4_signOf_6 (by decide) ?_
          refine z_icmp_ne C0 14 dX4_signOf_7 (by decide) (fun c2 => ?_) (fun c2 => ?_)
          · exact absurd ⟨c1, c2⟩ hc5
          · exact k7
def f_X4_blown (a0 : Nat) (v1 : Int32) (v2 : Int32) (v3 : Int32) (μ : zM) : Option (Int32) :=
  if (¬ (v1 = (-1 : Int32))) ∧ ((f_X4_axisOf v1) = v3) then
    zg (zgk (μ a0 0) 1) <|
    zl (if ((f_X1_wreathSizes ((μ a0 0).toNatClampNeg) μ) * v2) < (μ (((μ a0 0).toNatClampNeg) + 1) 7) then
        (0 : Int32)
      else
        (f_X4_signOf v1)) fun x11 =>
    some x11
  else
    some (0 : Int32)
set_option maxHeartbeats 4000000 in
set_option maxRecDepth 100000 in
theorem r_X4_blown {l : Launch} {g : zL} (a0 : Nat) (v1 : Int32) (v2 : Int32) (v3 : Int32) (μ : zM) (hT0 : zT zNN zσ1 a0 4) {rv : Int32} (h : f_X4_blown a0 v1 v2 v3 μ = some rv) : zMet l g yX4_blown cX4_blown 4 (some (.int)) 1 0 0 zNN zNN zσ1 zσ1 [.ref (zb g + a0), .int v1, .int v2, .int v3] μ (some (.int rv)) μ := by
  refine zMet.of (by decide +kernel) (Nat.le_of_ble_eq_true rfl) ?_
  intro p e s m args below meth c C0
  refine z_loc (lo1 := [(0, .ref (zb g + a0)), (1, .int v1), (2, .int v2), (3, .int v3)]) rfl ?_
  unfold f_X4_blown at h
  refine z_iload_n C0 dX4_blown_0 rfl 1 rfl ?_
  refine z_iconst (v := (-1 : Int32)) C0 dX4_blown_1 (by decide) ?_
  by_cases hc12 : (¬ (v1 = (-1 : Int32))) ∧ ((f_X4_axisOf v1) = v3)
  · have h := zif_t hc12 h
    refine z_join μ 15 [(0, .ref (zb g + a0)), (1, .int v1), (2, .int v2), (3, .int v3)] [] ?_ (fun k13 => ?_)
    · refine z_aload_n C0 dX4_blown_15 rfl 0 rfl ?_
      obtain ⟨g8, h⟩ := zg_of h
      refine z_getd C0 hT0.1 hT0.2.2.1 kf_4_18 zr_4_0 (zgk_T g8 (by decide)).1 dX4_blown_16 ?_
      refine z_callV (As := []) (rest := []) C0 rfl kc_X1_wreathSizes km_RX4_109 (r_X1_wreathSizes (l := l) (g := g) ((μ a0 0).toNatClampNeg) μ (zgk_T g8 (by decide)).2 rfl) (zgk_T g8 (by decide)).2.1 (zgk_T g8 (by decide)).2.2.2.1 rfl (by decide) rfl (Nat.le_of_ble_eq_true rfl) (Nat.le_of_ble_eq_true rfl) (Nat.le_of_ble_eq_true rfl) (Nat.le_of_ble_eq_true rfl) (Nat.le_refl _) rfl rfl dX4_blown_19 ?_
      refine z_iload_n C0 dX4_blown_22 rfl 2 rfl ?_
      refine z_imul C0 dX4_blown_23 ?_
      refine z_aload_n C0 dX4_blown_24 rfl 0 rfl ?_
      refine z_getd C0 hT0.1 hT0.2.2.1 kf_4_18 zr_4_0 (zgk_T g8 (by decide)).1 dX4_blown_25 ?_
      refine z_getr C0 (zgk_T g8 (by decide)).2 kf_4_48 zr_1_0 zx_1 (zs_1_0 (zgk_T g8 (by decide)).2).1 dX4_blown_28 ?_
      refine z_bipush (v := (7 : Int32)) C0 dX4_blown_31 (by decide) ?_
      refine z_iald (j := 7) C0 (zs_1_0 (zgk_T g8 (by decide)).2).2 (by decide : zin (7 : Int32) 11 = true) (by decide) dX4_blown_33 ?_
      obtain ⟨x11, e_x11, h⟩ := zl_of h
      refine z_join μ 45 [] [.int x11] ?_ (fun k_J10 => ?_)
      · have h := Option.some.inj h
        obtain rfl := h
        exact z_iret C0 rfl dX4_blown_45
      · have h := e_x11.symm
        refine z_icmp_lt C0 44 dX4_blown_34 (by decide) (fun c9 => ?_) (fun c9 => ?_)
        · have h := zif_t c9 h
          refine z_iconst (v := (0 : Int32)) C0 dX4_blown_44 (by decide) ?_
          refine z_sub (lo1 := []) [] rfl ?_
          obtain rfl := h
          exact k_J10
        · have h := zif_f c9 h
          refine z_iload_n C0 dX4_blown_37 rfl 1 rfl ?_
          refine z_callS (As := [.int v1]) (rest := []) C0 rfl kc_X4_signOf km_RX4_112 (r_X4_signOf (l := l) (g := g) (μ := μ) v1 rfl) rfl (Nat.le_of_ble_eq_true rfl) (Nat.le_of_ble_eq_true rfl) (Nat.le_of_ble_eq_true rfl) (Nat.le_of_ble_eq_true rfl) (Nat.le_refl _) rfl rfl dX4_blown_38 ?_
          refine z_goto C0 45 dX4_blown_41 (by decide) ?_
          refine z_sub (lo1 := []) [] rfl ?_
          obtain rfl := h
          exact k_J10
    · refine z_icmp_eq C0 13 dX4_blown_2 (by decide) (fun c1 => ?_) (fun c1 => ?_)
      · exact absurd hc12 (fun q => q.1 c1)
      · refine z_iload_n C0 dX4_blown_5 rfl 1 rfl ?_
        refine z_callS (As := [.int v1]) (rest := []) C0 rfl kc_X4_axisOf km_RX4_106 (r_X4_axisOf (l := l) (g := g) (μ := μ) v1 rfl) rfl (Nat.le_of_ble_eq_true rfl) (Nat.le_of_ble_eq_true rfl) (Nat.le_of_ble_eq_true rfl) (Nat.le_of_ble_eq_true rfl) (Nat.le_refl _) rfl rfl dX4_blown_6 ?_
        refine z_iload_n C0 dX4_blown_9 rfl 3 rfl ?_
        refine z_icmp_eq C0 15 dX4_blown_10 (by decide) (fun c6 => ?_) (fun c6 => ?_)
        · exact k13
        · exact absurd hc12 (fun q => c6 q.2)
  · have h := zif_f hc12 h
    refine z_join μ 13 [(0, .ref (zb g + a0)), (1, .int v1), (2, .int v2), (3, .int v3)] [] ?_ (fun k14 => ?_)
    · refine z_iconst (v := (0 : Int32)) C0 dX4_blown_13 (by decide) ?_
      have h := Option.some.inj h
      obtain rfl := h
      exact z_iret C0 rfl dX4_blown_14
    · refine z_icmp_eq C0 13 dX4_blown_2 (by decide) (fun c1 => ?_) (fun c1 => ?_)
      · exact k14
      · refine z_iload_n C0 dX4_blown_5 rfl 1 rfl ?_
        refine z_callS (As := [.int v1]) (rest := []) C0 rfl kc_X4_axisOf km_RX4_106 (r_X4_axisOf (l := l) (g := g) (μ := μ) v1 rfl) rfl (Nat.le_of_ble_eq_true rfl) (Nat.le_of_ble_eq_true rfl) (Nat.le_of_ble_eq_true rfl) (Nat.le_of_ble_eq_true rfl) (Nat.le_refl _) rfl rfl dX4_blown_6 ?_
        refine z_iload_n C0 dX4_blown_9 rfl 3 rfl ?_
        refine z_icmp_eq C0 15 dX4_blown_10 (by decide) (fun c6 => ?_) (fun c6 => ?_)
        · exact absurd ⟨c1, c6⟩ hc12
        · exact k14
def f_X4_driftAlong (a0 : Nat) (v1 : Int32) (μ : zM) : Option (Int32) :=
  zg (zgk (μ a0 0) 1) <|
  zbd (f_X4_listAlong a0 v1 μ) fun r2 =>
  zbd (f_X4_blown a0 (μ a0 10) (μ a0 11) v1 μ) fun r3 =>
  some (f_J6_signum_0f7a4 ((f_X1_lean ((μ a0 0).toNatClampNeg) r2 μ) + r3))
set_option maxHeartbeats 4000000 in
set_option maxRecDepth 100000 in
theorem r_X4_driftAlong {l : Launch} {g : zL} (a0 : Nat) (v1 : Int32) (μ : zM) (hT0 : zT zNN zσ1 a0 4) {rv : Int32} (h : f_X4_driftAlong a0 v1 μ = some rv) : zMet l g yX4_driftAlong cX4_driftAlong 2 (some (.int)) 2 0 0 zNN zNN zσ1 zσ1 [.ref (zb g + a0), .int v1] μ (some (.int rv)) μ := by
  refine zMet.of (by decide +kernel) (Nat.le_of_ble_eq_true rfl) ?_
  intro p e s m args below meth c C0
  refine z_loc (lo1 := [(0, .ref (zb g + a0)), (1, .int v1)]) rfl ?_
  unfold f_X4_driftAlong at h
  refine z_aload_n C0 dX4_driftAlong_0 rfl 0 rfl ?_
  obtain ⟨g1, h⟩ := zg_of h
  refine z_getd C0 hT0.1 hT0.2.2.1 kf_4_18 zr_4_0 (zgk_T g1 (by decide)).1 dX4_driftAlong_1 ?_
  refine z_aload_n C0 dX4_driftAlong_4 rfl 0 rfl ?_
  refine z_iload_n C0 dX4_driftAlong_5 rfl 1 rfl ?_
  obtain ⟨r2, e_r2, h⟩ := zbd_of h
  refine z_callV (As := [.int v1]) (rest := [.ref (zb g + ((μ a0 0).toNatClampNeg))]) C0 rfl kc_X4_listAlong km_RX4_115 (r_X4_listAlong (l := l) (g := g) a0 v1 μ hT0 e_r2) hT0.1 hT0.2.2.1 rfl (by decide) rfl (Nat.le_of_ble_eq_true rfl) (Nat.le_of_ble_eq_true rfl) (Nat.le_of_ble_eq_true rfl) (Nat.le_of_ble_eq_true rfl) (Nat.le_refl _) rfl rfl dX4_driftAlong_6 ?_
  refine z_callV (As := [.int r2]) (rest := []) C0 rfl kc_X1_lean km_RX4_118 (r_X1_lean (l := l) (g := g) ((μ a0 0).toNatClampNeg) r2 μ (zgk_T g1 (by decide)).2 rfl) (zgk_T g1 (by decide)).2.1 (zgk_T g1 (by decide)).2.2.2.1 rfl (by decide) rfl (Nat.le_of_ble_eq_true rfl) (Nat.le_of_ble_eq_true rfl) (Nat.le_of_ble_eq_true rfl) (Nat.le_of_ble_eq_true rfl) (Nat.le_refl _) rfl rfl dX4_driftAlong_9 ?_
  refine z_aload_n C0 dX4_driftAlong_12 rfl 0 rfl ?_
  refine z_aload_n C0 dX4_driftAlong_13 rfl 0 rfl ?_
  refine z_geti C0 hT0.1 hT0.2.2.1 kf_4_42 zr_4_10 dX4_driftAlong_14 ?_
  refine z_aload_n C0 dX4_driftAlong_17 rfl 0 rfl ?_
  refine z_geti C0 hT0.1 hT0.2.2.1 kf_4_45 zr_4_11 dX4_driftAlong_18 ?_
  refine z_iload_n C0 dX4_driftAlong_21 rfl 1 rfl ?_
  obtain ⟨r3, e_r3, h⟩ := zbd_of h
  refine z_callV (As := [.int (μ a0 10), .int (μ a0 11), .int v1]) (rest := [.int (f_X1_lean ((μ a0 0).toNatClampNeg) r2 μ)]) C0 rfl kc_X4_blown km_RX4_121 (r_X4_blown (l := l) (g := g) a0 (μ a0 10) (μ a0 11) v1 μ hT0 e_r3) hT0.1 hT0.2.2.1 rfl (by decide) rfl (Nat.le_of_ble_eq_true rfl) (Nat.le_of_ble_eq_true rfl) (Nat.le_of_ble_eq_true rfl) (Nat.le_of_ble_eq_true rfl) (Nat.le_refl _) rfl rfl dX4_driftAlong_22 ?_
  refine z_iadd C0 dX4_driftAlong_25 ?_
  refine z_callS (As := [.int ((f_X1_lean ((μ a0 0).toNatClampNeg) r2 μ) + r3)]) (rest := []) C0 rfl kc_J6_signum_0f7a4 km_RX4_125 (r_J6_signum_0f7a4 (l := l) (g := g) (μ := μ) ((f_X1_lean ((μ a0 0).toNatClampNeg) r2 μ) + r3) rfl) rfl (Nat.le_of_ble_eq_true rfl) (Nat.le_of_ble_eq_true rfl) (Nat.le_of_ble_eq_true rfl) (Nat.le_of_ble_eq_true rfl) (Nat.le_refl _) rfl rfl dX4_driftAlong_26 ?_
  have h := Option.some.inj h
  obtain rfl := h
  exact z_iret C0 rfl dX4_driftAlong_29
def f_X4_hasPlace (a0 : Nat) (v1 : Int32) (μ : zM) : Option (Int32) :=
  zbd (zbd (if v1 < 0 then
        some false
      else
        if (16 : Int32) ≤ v1 then
          some false
        else
          zg (zgk (μ a0 0) 1) <|
          if (f_X1_places ((μ a0 0).toNatClampNeg) μ) ≤ v1 then
            some false
          else
            some true) fun b6 =>
    if b6 = true then
      some (1 : Int32)
    else
      some (0 : Int32)) fun x8 =>
  zg (z01 x8) <|
  some x8
set_option maxHeartbeats 4000000 in
set_option maxRecDepth 100000 in
theorem r_X4_hasPlace {l : Launch} {g : zL} (a0 : Nat) (v1 : Int32) (μ : zM) (hT0 : zT zNN zσ1 a0 4) {rv : Int32} (h : f_X4_hasPlace a0 v1 μ = some rv) : zMet l g yX4_hasPlace cX4_hasPlace 2 (some (.boolean)) 1 0 0 zNN zNN zσ1 zσ1 [.ref (zb g + a0), .int v1] μ (some (.int rv)) μ := by
  refine zMet.of (by decide +kernel) (Nat.le_of_ble_eq_true rfl) ?_
  intro p e s m args below meth c C0
  refine z_loc (lo1 := [(0, .ref (zb g + a0)), (1, .int v1)]) rfl ?_
  unfold f_X4_hasPlace at h
  refine z_iload_n C0 dX4_hasPlace_0 rfl 1 rfl ?_
  obtain ⟨x8, e_x8, h⟩ := zbd_of h
  refine z_join μ 26 [] [.int x8] ?_ (fun k_J7 => ?_)
  · obtain ⟨g9, h⟩ := zg_of h
    have h := Option.some.inj h
    obtain rfl := h
    exact z_zret C0 rfl g9 dX4_hasPlace_26
  · have h := e_x8
    obtain ⟨b6, e_b6, h⟩ := zbd_of h
    refine z_joinb b6 μ 21 25 [(0, .ref (zb g + a0)), (1, .int v1)] [] (fun z12 => ?_) (fun z12 => ?_) (fun k10 k11 => ?_)
    · have h := zif_t z12 h
      refine z_iconst (v := (1 : Int32)) C0 dX4_hasPlace_21 (by decide) ?_
      refine z_goto C0 26 dX4_hasPlace_22 (by decide) ?_
      refine z_sub (lo1 := []) [] rfl ?_
      obtain rfl := (Option.some.inj h)
      exact k_J7
    · have h := zif_f (fun q => Bool.noConfusion (z12.symm.trans q)) h
      refine z_iconst (v := (0 : Int32)) C0 dX4_hasPlace_25 (by decide) ?_
      refine z_sub (lo1 := []) [] rfl ?_
      obtain rfl := (Option.some.inj h)
      exact k_J7
    · have h := e_b6
      refine z_if_lt C0 25 dX4_hasPlace_1 (by decide) (fun c1 => ?_) (fun c1 => ?_)
      · have h := zif_t c1 h
        exact k11 (Option.some.inj h).symm
      · have h := zif_f c1 h
        refine z_iload_n C0 dX4_hasPlace_4 rfl 1 rfl ?_
        refine z_bipush (v := (16 : Int32)) C0 dX4_hasPlace_5 (by decide) ?_
        refine z_icmp_ge C0 25 dX4_hasPlace_7 (by decide) (fun c2 => ?_) (fun c2 => ?_)
        · have h := zif_t c2 h
          exact k11 (Option.some.inj h).symm
        · have h := zif_f c2 h
          refine z_iload_n C0 dX4_hasPlace_10 rfl 1 rfl ?_
          refine z_aload_n C0 dX4_hasPlace_11 rfl 0 rfl ?_
          obtain ⟨g4, h⟩ := zg_of h
          refine z_getd C0 hT0.1 hT0.2.2.1 kf_4_18 zr_4_0 (zgk_T g4 (by decide)).1 dX4_hasPlace_12 ?_
          refine z_callV (As := []) (rest := [.int v1]) C0 rfl kc_X1_places km_RX4_90 (r_X1_places (l := l) (g := g) ((μ a0 0).toNatClampNeg) μ (zgk_T g4 (by decide)).2 rfl) (zgk_T g4 (by decide)).2.1 (zgk_T g4 (by decide)).2.2.2.1 rfl (by decide) rfl (Nat.le_of_ble_eq_true rfl) (Nat.le_of_ble_eq_true rfl) (Nat.le_of_ble_eq_true rfl) (Nat.le_of_ble_eq_true rfl) (Nat.le_refl _) rfl rfl dX4_hasPlace_15 ?_
          refine z_icmp_ge C0 25 dX4_hasPlace_18 (by decide) (fun c5 => ?_) (fun c5 => ?_)
          · have h := zif_t c5 h
            exact k11 (Option.some.inj h).symm
          · have h := zif_f c5 h
            exact k10 (Option.some.inj h).symm
def f_X4_allWater_L4 (a0 : Nat) (μ4 : zM) : Nat → Int32 → Int32 → Option (Int32)
  | 0, _, _ => none
  | n + 1, y2, y3 =>
    if (16 : Int32) ≤ y3 then
      some y2
    else
      zg (zin y3 16) <|
      zl (y2 + (μ4 (a0 + 2) (y3.toNatClampNeg))) fun x7 =>
      zl (y3 + (1 : Int32)) fun x8 =>
      f_X4_allWater_L4 a0 μ4 n x7 x8
def f_X4_allWater (a0 : Nat) (μ : zM) : Option (Int32) :=
  zbd (f_X4_allWater_L4 a0 μ zFU (0 : Int32) (0 : Int32)) fun x9 =>
  some x9
set_option maxHeartbeats 4000000 in
set_option maxRecDepth 100000 in
theorem r_X4_allWater_L4 {l : Launch} {g : zL} {p : Program} {e : Env} {s : State} {m : MethodId} {args : Array Value} {below : List Frame} {meth : Method} {c : Code} {Q : State → Prop} (C0 : zC p s m args meth c g cX4_allWater yX4_allWater 3 (some (.int))) (a0 : Nat) (μ4 : zM) (hU1 : zT zNN zσ1 a0 4) : ∀ (n : Nat) (y2 : Int32) (y3 : Int32) (x9 : Int32), f_X4_allWater_L4 a0 μ4 n y2 y3 = some x9 → Z p l e (zrm 0 0 0) s m args below meth c g Q 3 zNN 0 0 zσ1 μ4 25 [(1, .int x9)] [] → Z p l e (zrm 0 0 0) s m args below meth c g Q 3 zNN 0 0 zσ1 μ4 4 [(0, .ref (zb g + a0)), (1, .int y2), (2, .int y3)] [] := by
  intro n
  induction n with
  | zero =>
    intro y2 y3 x9 h kx
    rw [f_X4_allWater_L4] at h
    cases h
  | succ n ih =>
    intro y2 y3 x9 h kx
    rw [f_X4_allWater_L4] at h
    refine z_iload_n C0 dX4_allWater_4 rfl 2 rfl ?_
    refine z_bipush (v := (16 : Int32)) C0 dX4_allWater_5 (by decide) ?_
    refine z_icmp_ge C0 25 dX4_allWater_7 (by decide) (fun c5 => ?_) (fun c5 => ?_)
    · have h := zif_t c5 h
      refine z_sub (lo1 := [(1, .int y2)]) [1] rfl ?_
      obtain rfl := (Option.some.inj h)
      exact kx
    · have h := zif_f c5 h
      refine z_iload_n C0 dX4_allWater_10 rfl 1 rfl ?_
      refine z_aload_n C0 dX4_allWater_11 rfl 0 rfl ?_
      refine z_getr C0 hU1 kf_4_15 zr_4_13 zx_4 (zs_4_13 hU1).1 dX4_allWater_12 ?_
      refine z_iload_n C0 dX4_allWater_15 rfl 2 rfl ?_
      obtain ⟨g6, h⟩ := zg_of h
      refine z_iald C0 (zs_4_13 hU1).2 g6 rfl dX4_allWater_16 ?_
      refine z_iadd C0 dX4_allWater_17 ?_
      obtain ⟨x7, e_x7, h⟩ := zl_of h
      refine z_nm e_x7 ?_
      refine z_istore_n (lo1 := [(1, .int x7), (0, .ref (zb g + a0)), (2, .int y3)]) C0 dX4_allWater_18 rfl (by decide) rfl ?_
      obtain ⟨x8, e_x8, h⟩ := zl_of h
      refine z_iinc (lo1 := [(2, .int x8), (1, .int x7), (0, .ref (zb g + a0))]) C0 dX4_allWater_19 2 rfl (by decide) e_x8.symm (by decide) rfl ?_
      refine z_goto C0 4 dX4_allWater_22 (by decide) ?_
      refine z_sub (lo1 := [(0, .ref (zb g + a0)), (1, .int x7), (2, .int x8)]) [2, 1, 0] rfl ?_
      exact ih _ _ _ h kx
set_option maxHeartbeats 4000000 in
set_option maxRecDepth 100000 in
theorem r_X4_allWater {l : Launch} {g : zL} (a0 : Nat) (μ : zM) (hT0 : zT zNN zσ1 a0 4) {rv : Int32} (h : f_X4_allWater a0 μ = some rv) : zMet l g yX4_allWater cX4_allWater 3 (some (.int)) 0 0 0 zNN zNN zσ1 zσ1 [.ref (zb g + a0)] μ (some (.int rv)) μ := by
  refine zMet.of (by decide +kernel) (Nat.le_of_ble_eq_true rfl) ?_
  intro p e s m args below meth c C0
  refine z_loc (lo1 := [(0, .ref (zb g + a0))]) rfl ?_
  unfold f_X4_allWater at h
  refine z_iconst (v := (0 : Int32)) C0 dX4_allWater_0 (by decide) ?_
  refine z_istore_n (lo1 := [(1, .int (0 : Int32)), (0, .ref (zb g + a0))]) C0 dX4_allWater_1 rfl (by decide) rfl ?_
  refine z_iconst (v := (0 : Int32)) C0 dX4_allWater_2 (by decide) ?_
  refine z_istore_n (lo1 := [(2, .int (0 : Int32)), (1, .int (0 : Int32)), (0, .ref (zb g + a0))]) C0 dX4_allWater_3 rfl (by decide) rfl ?_
  refine z_sub (lo1 := [(0, .ref (zb g + a0)), (1, .int (0 : Int32)), (2, .int (0 : Int32))]) [2, 1, 0] rfl ?_
  obtain ⟨x9, e_x9, h⟩ := zbd_of h
  refine r_X4_allWater_L4 C0 a0 μ hT0 zFU (0 : Int32) (0 : Int32) x9 e_x9 ?_
  refine z_iload_n C0 dX4_allWater_25 rfl 0 rfl ?_
  have h := Option.some.inj h
  obtain rfl := h
  exact z_iret C0 rfl dX4_allWater_26
def f_X4_passHour_L61 (a0 : Nat) : Nat → Int32 → zM → Option (zM)
  | 0, _, _ => none
  | n + 1, y15, μ16 =>
    zg (zgk (μ16 a0 0) 1) <|
    if (μ16 (((μ16 a0 0).toNatClampNeg) + 10) 2) ≤ y15 then
      some μ16
    else
      zbd (f_X6_number (((μ16 a0 0).toNatClampNeg) + 10) y15 (0 : Int32) μ16) fun r19 =>
      zbd (f_X4_hasPlace a0 r19 μ16) fun r20 =>
      zbd (if r20 = 0 then
          some μ16
        else
          zg (zin r19 16) <|
          zbd (f_X6_number (((μ16 a0 0).toNatClampNeg) + 10) y15 (1 : Int32) μ16) fun r24 =>
          zl (zup μ16 (a0 + 2) (r19.toNatClampNeg) ((μ16 (a0 + 2) (r19.toNatClampNeg)) + r24)) fun μ25 =>
          some μ25) fun μ26 =>
      zl (y15 + (1 : Int32)) fun x27 =>
      f_X4_passHour_L61 a0 n x27 μ26
def f_X4_passHour (a0 : Nat) (μ : zM) : Option (zM) :=
  if (μ a0 7) = 0 then
    zbd (if ((μ a0 8) = 0) ∧ ((μ a0 9) = 0) then
        zbd (f_X4_driftAlong a0 (0 : Int32) μ) fun r7 =>
        zbd (f_X4_driftAlong a0 (1 : Int32) μ) fun r8 =>
        zbd (f_X4_move a0 r7 r8 μ) fun μ9 =>
        some μ9
      else
        some μ) fun μ10 =>
    zl (zup μ10 a0 4 ((μ10 a0 4) + (1 : Int32))) fun μ11 =>
    zbd (f_X4_sides a0 μ11) fun r12 =>
    zl (zup μ11 a0 6 ((μ11 a0 6) ||| r12)) fun μ13 =>
    zbd (f_X4_passHour_L61 a0 zFU (0 : Int32) μ13) fun μ28 =>
    zbd (f_X4_allWater a0 μ28) fun r29 =>
    zg (zgk (μ28 a0 0) 1) <|
    zl (if r29 ≤ (μ28 (((μ28 a0 0).toNatClampNeg) + 1) 8) then
        (0 : Int32)
      else
        (1 : Int32)) fun x33 =>
    zl (zup μ28 a0 7 x33) fun μ34 =>
    some μ34
  else
    some μ
set_option maxHeartbeats 4000000 in
set_option maxRecDepth 100000 in
theorem r_X4_passHour_L61 {l : Launch} {g : zL} {p : Program} {e : Env} {s : State} {m : MethodId} {args : Array Value} {below : List Frame} {meth : Method} {c : Code} {Q : State → Prop} (C0 : zC p s m args meth c g cX4_passHour yX4_passHour 3 none) (a0 : Nat) (hU14 : zT zNN zσ1 a0 4) : ∀ (n : Nat) (y15 : Int32) (μ16 : zM) (μ28 : zM), f_X4_passHour_L61 a0 n y15 μ16 = some μ28 → Z p l e (zrm 3 0 0) s m args below meth c g Q 3 zNN 0 0 zσ1 μ28 123 [(0, .ref (zb g + a0))] [] → Z p l e (zrm 3 0 0) s m args below meth c g Q 3 zNN 0 0 zσ1 μ16 61 [(0, .ref (zb g + a0)), (1, .int y15)] [] := by
  intro n
  induction n with
  | zero =>
    intro y15 μ16 μ28 h kx
    rw [f_X4_passHour_L61] at h
    cases h
  | succ n ih =>
    intro y15 μ16 μ28 h kx
    rw [f_X4_passHour_L61] at h
    refine z_iload_n C0 dX4_passHour_61 rfl 1 rfl ?_
    refine z_aload_n C0 dX4_passHour_62 rfl 0 rfl ?_
    obtain ⟨g17, h⟩ := zg_of h
    refine z_getd C0 hU14.1 hU14.2.2.1 kf_4_18 zr_4_0 (zgk_T g17 (by decide)).1 dX4_passHour_63 ?_
    refine z_getr C0 (zgk_T g17 (by decide)).2 kf_4_140 zr_1_5 zx_1 (zs_1_5 (zgk_T g17 (by decide)).2).1 dX4_passHour_66 ?_
    refine z_geti C0 (zs_1_5 (zgk_T g17 (by decide)).2).2.1 (zs_1_5 (zgk_T g17 (by decide)).2).2.2.2.1 kf_4_143 zr_6_2 dX4_passHour_69 ?_
    refine z_icmp_ge C0 123 dX4_passHour_72 (by decide) (fun c18 => ?_) (fun c18 => ?_)
    · have h := zif_t c18 h
      refine z_sub (lo1 := [(0, .ref (zb g + a0))]) [0] rfl ?_
      obtain rfl := (Option.some.inj h)
      exact kx
    · have h := zif_f c18 h
      refine z_aload_n C0 dX4_passHour_75 rfl 0 rfl ?_
      refine z_getd C0 hU14.1 hU14.2.2.1 kf_4_18 zr_4_0 (zgk_T g17 (by decide)).1 dX4_passHour_76 ?_
      refine z_getr C0 (zgk_T g17 (by decide)).2 kf_4_140 zr_1_5 zx_1 (zs_1_5 (zgk_T g17 (by decide)).2).1 dX4_passHour_79 ?_
      refine z_iload_n C0 dX4_passHour_82 rfl 1 rfl ?_
      refine z_iconst (v := (0 : Int32)) C0 dX4_passHour_83 (by decide) ?_
      obtain ⟨r19, e_r19, h⟩ := zbd_of h
      refine z_callV (As := [.int y15, .int (0 : Int32)]) (rest := []) C0 rfl kc_X6_number km_RX4_99 (r_X6_number (l := l) (g := g) (((μ16 a0 0).toNatClampNeg) + 10) y15 (0 : Int32) μ16 (zs_1_5 (zgk_T g17 (by decide)).2).2 e_r19) (zs_1_5 (zgk_T g17 (by decide)).2).2.1 (zs_1_5 (zgk_T g17 (by decide)).2).2.2.2.1 rfl (by decide) rfl (Nat.le_of_ble_eq_true rfl) (Nat.le_of_ble_eq_true rfl) (Nat.le_of_ble_eq_true rfl) (Nat.le_of_ble_eq_true rfl) (Nat.le_refl _) rfl rfl dX4_passHour_84 ?_
      refine z_istore_n (lo1 := [(2, .int r19), (0, .ref (zb g + a0)), (1, .int y15)]) C0 dX4_passHour_87 rfl (by decide) rfl ?_
      refine z_aload_n C0 dX4_passHour_88 rfl 1 rfl ?_
      refine z_iload_n C0 dX4_passHour_89 rfl 0 rfl ?_
      obtain ⟨r20, e_r20, h⟩ := zbd_of h
      refine z_callV (As := [.int r19]) (rest := []) C0 rfl kc_X4_hasPlace km_RX4_87 (r_X4_hasPlace (l := l) (g := g) a0 r19 μ16 hU14 e_r20) hU14.1 hU14.2.2.1 rfl (by decide) rfl (Nat.le_of_ble_eq_true rfl) (Nat.le_of_ble_eq_true rfl) (Nat.le_of_ble_eq_true rfl) (Nat.le_of_ble_eq_true rfl) (Nat.le_refl _) rfl rfl dX4_passHour_90 ?_
      obtain ⟨μ26, e_μ26, h⟩ := zbd_of h
      refine z_join μ26 117 [(0, .ref (zb g + a0)), (1, .int y15)] [] ?_ (fun k_J22 => ?_)
      · obtain ⟨x27, e_x27, h⟩ := zl_of h
        refine z_iinc (lo1 := [(1, .int x27), (0, .ref (zb g + a0))]) C0 dX4_passHour_117 1 rfl (by decide) e_x27.symm (by decide) rfl ?_
        refine z_goto C0 61 dX4_passHour_120 (by decide) ?_
        refine z_sub (lo1 := [(0, .ref (zb g + a0)), (1, .int x27)]) [1, 0] rfl ?_
        exact ih _ _ _ h kx
      · have h := e_μ26
        refine z_if_eq C0 117 dX4_passHour_93 (by decide) (fun c21 => ?_) (fun c21 => ?_)
        · have h := zif_t c21 h
          refine z_sub (lo1 := [(0, .ref (zb g + a0)), (1, .int y15)]) [1, 2] rfl ?_
          obtain rfl := (Option.some.inj h)
          exact k_J22
        · have h := zif_f c21 h
          refine z_aload_n C0 dX4_passHour_96 rfl 1 rfl ?_
          refine z_getr C0 hU14 kf_4_15 zr_4_13 zx_4 (zs_4_13 hU14).1 dX4_passHour_97 ?_
          refine z_iload_n C0 dX4_passHour_100 rfl 0 rfl ?_
          refine z_dup2 C0 dX4_passHour_101 rfl rfl ?_
          obtain ⟨g23, h⟩ := zg_of h
          refine z_iald C0 (zs_4_13 hU14).2 g23 rfl dX4_passHour_102 ?_
          refine z_aload_n C0 dX4_passHour_103 rfl 1 rfl ?_
          refine z_getd C0 hU14.1 hU14.2.2.1 kf_4_18 zr_4_0 (zgk_T g17 (by decide)).1 dX4_passHour_104 ?_
          refine z_getr C0 (zgk_T g17 (by decide)).2 kf_4_140 zr_1_5 zx_1 (zs_1_5 (zgk_T g17 (by decide)).2).1 dX4_passHour_107 ?_
          refine z_iload_n C0 dX4_passHour_110 rfl 2 rfl ?_
          refine z_iconst (v := (1 : Int32)) C0 dX4_passHour_111 (by decide) ?_
          obtain ⟨r24, e_r24, h⟩ := zbd_of h
          refine z_callV (As := [.int y15, .int (1 : Int32)]) (rest := [.int (μ16 (a0 + 2) (r19.toNatClampNeg)), .int r19, .ref (zb g + (a0 + 2))]) C0 rfl kc_X6_number km_RX4_99 (r_X6_number (l := l) (g := g) (((μ16 a0 0).toNatClampNeg) + 10) y15 (1 : Int32) μ16 (zs_1_5 (zgk_T g17 (by decide)).2).2 e_r24) (zs_1_5 (zgk_T g17 (by decide)).2).2.1 (zs_1_5 (zgk_T g17 (by decide)).2).2.2.2.1 rfl (by decide) rfl (Nat.le_of_ble_eq_true rfl) (Nat.le_of_ble_eq_true rfl) (Nat.le_of_ble_eq_true rfl) (Nat.le_of_ble_eq_true rfl) (Nat.le_refl _) rfl rfl dX4_passHour_112 ?_
          refine z_iadd C0 dX4_passHour_115 ?_
          obtain ⟨μ25, e_μ25, h⟩ := zl_of h
          refine z_iast C0 (zs_4_13 hU14).2 g23 rfl e_μ25 dX4_passHour_116 ?_
          refine z_sub (lo1 := [(0, .ref (zb g + a0)), (1, .int y15)]) [1, 2] rfl ?_
          obtain rfl := (Option.some.inj h)
          exact k_J22
set_option maxHeartbeats 4000000 in
set_option maxRecDepth 100000 in
theorem r_X4_passHour {l : Launch} {g : zL} (a0 : Nat) (μ : zM) (hT0 : zT zNN zσ1 a0 4) {μr : zM} (h : f_X4_passHour a0 μ = some μr) : zMet l g yX4_passHour cX4_passHour 3 none 3 0 0 zNN zNN zσ1 zσ1 [.ref (zb g + a0)] μ none μr := by
  refine zMet.of (by decide +kernel) (Nat.le_of_ble_eq_true rfl) ?_
  intro p e s m args below meth c C0
  refine z_loc (lo1 := [(0, .ref (zb g + a0))]) rfl ?_
  unfold f_X4_passHour at h
  refine z_aload_n C0 dX4_passHour_0 rfl 0 rfl ?_
  refine z_geti C0 hT0.1 hT0.2.2.1 kf_4_32 zr_4_7 dX4_passHour_1 ?_
  refine z_if_eq C0 8 dX4_passHour_4 (by decide) (fun c1 => ?_) (fun c1 => ?_)
  · have h := zif_t c1 h
    refine z_aload_n C0 dX4_passHour_8 rfl 0 rfl ?_
    refine z_geti C0 hT0.1 hT0.2.2.1 kf_4_36 zr_4_8 dX4_passHour_9 ?_
    obtain ⟨μ10, e_μ10, h⟩ := zbd_of h
    refine z_join μ10 36 [(0, .ref (zb g + a0))] [] ?_ (fun k_J6 => ?_)
    · refine z_aload_n C0 dX4_passHour_36 rfl 0 rfl ?_
      refine z_dup C0 dX4_passHour_37 rfl ?_
      refine z_geti C0 hT0.1 hT0.2.2.1 kf_4_25 zr_4_4 dX4_passHour_38 ?_
      refine z_iconst (v := (1 : Int32)) C0 dX4_passHour_41 (by decide) ?_
      refine z_iadd C0 dX4_passHour_42 ?_
      obtain ⟨μ11, e_μ11, h⟩ := zl_of h
      refine z_puti C0 hT0.1 hT0.2.2.1 kf_4_25 zp_4_4 zr_4_4 e_μ11 dX4_passHour_43 ?_
      refine z_aload_n C0 dX4_passHour_46 rfl 0 rfl ?_
      refine z_dup C0 dX4_passHour_47 rfl ?_
      refine z_geti C0 hT0.1 hT0.2.2.1 kf_4_61 zr_4_6 dX4_passHour_48 ?_
      refine z_aload_n C0 dX4_passHour_51 rfl 0 rfl ?_
      obtain ⟨r12, e_r12, h⟩ := zbd_of h
      refine z_callV (As := []) (rest := [.int (μ11 a0 6), .ref (zb g + a0)]) C0 rfl kc_X4_sides km_RX4_57 (r_X4_sides (l := l) (g := g) a0 μ11 hT0 e_r12) hT0.1 hT0.2.2.1 rfl (by decide) rfl (Nat.le_of_ble_eq_true rfl) (Nat.le_of_ble_eq_true rfl) (Nat.le_of_ble_eq_true rfl) (Nat.le_of_ble_eq_true rfl) (Nat.le_refl _) rfl rfl dX4_passHour_52 ?_
      refine z_ior C0 dX4_passHour_55 ?_
      obtain ⟨μ13, e_μ13, h⟩ := zl_of h
      refine z_puti C0 hT0.1 hT0.2.2.1 kf_4_61 zp_4_6 zr_4_6 e_μ13 dX4_passHour_56 ?_
      refine z_iconst (v := (0 : Int32)) C0 dX4_passHour_59 (by decide) ?_
      refine z_istore_n (lo1 := [(1, .int (0 : Int32)), (0, .ref (zb g + a0))]) C0 dX4_passHour_60 rfl (by decide) rfl ?_
      refine z_sub (lo1 := [(0, .ref (zb g + a0)), (1, .int (0 : Int32))]) [1, 0] rfl ?_
      obtain ⟨μ28, e_μ28, h⟩ := zbd_of h
      refine r_X4_passHour_L61 C0 a0 hT0 zFU (0 : Int32) μ13 μ28 e_μ28 ?_
      refine z_aload_n C0 dX4_passHour_123 rfl 0 rfl ?_
      refine z_aload_n C0 dX4_passHour_124 rfl 0 rfl ?_
      obtain ⟨r29, e_r29, h⟩ := zbd_of h
      refine z_callV (As := []) (rest := [.ref (zb g + a0)]) C0 rfl kc_X4_allWater km_RX4_70 (r_X4_allWater (l := l) (g := g) a0 μ28 hT0 e_r29) hT0.1 hT0.2.2.1 rfl (by decide) rfl (Nat.le_of_ble_eq_true rfl) (Nat.le_of_ble_eq_true rfl) (Nat.le_of_ble_eq_true rfl) (Nat.le_of_ble_eq_true rfl) (Nat.le_refl _) rfl rfl dX4_passHour_125 ?_
      refine z_aload_n C0 dX4_passHour_128 rfl 0 rfl ?_
      obtain ⟨g30, h⟩ := zg_of h
      refine z_getd C0 hT0.1 hT0.2.2.1 kf_4_18 zr_4_0 (zgk_T g30 (by decide)).1 dX4_passHour_129 ?_
      refine z_getr C0 (zgk_T g30 (by decide)).2 kf_4_48 zr_1_0 zx_1 (zs_1_0 (zgk_T g30 (by decide)).2).1 dX4_passHour_132 ?_
      refine z_bipush (v := (8 : Int32)) C0 dX4_passHour_135 (by decide) ?_
      refine z_iald (j := 8) C0 (zs_1_0 (zgk_T g30 (by decide)).2).2 (by decide : zin (8 : Int32) 11 = true) (by decide) dX4_passHour_137 ?_
      obtain ⟨x33, e_x33, h⟩ := zl_of h
      refine z_join μ28 146 [] [.int x33, .ref (zb g + a0)] ?_ (fun k_J32 => ?_)
      · obtain ⟨μ34, e_μ34, h⟩ := zl_of h
        refine z_putb C0 hT0.1 hT0.2.2.1 kf_4_32 zp_4_7 zr_4_7 (by rw [e_x33]; repeat' split <;> rfl) e_μ34 dX4_passHour_146 ?_
        have h := Option.some.inj h
        obtain rfl := h
        exact z_vret C0 rfl dX4_passHour_149
      · have h := e_x33.symm
        refine z_icmp_le C0 145 dX4_passHour_138 (by decide) (fun c31 => ?_) (fun c31 => ?_)
        · have h := zif_t c31 h
          refine z_iconst (v := (0 : Int32)) C0 dX4_passHour_145 (by decide) ?_
          refine z_sub (lo1 := []) [] rfl ?_
          obtain rfl := h
          exact k_J32
        · have h := zif_f c31 h
          refine z_iconst (v := (1 : Int32)) C0 dX4_passHour_141 (by decide) ?_
          refine z_goto C0 146 dX4_passHour_142 (by decide) ?_
          refine z_sub (lo1 := []) [] rfl ?_
          obtain rfl := h
          exact k_J32
    · have h := e_μ10
      by_cases hc35 : ((μ a0 8) = 0) ∧ ((μ a0 9) = 0)
      · have h := zif_t hc35 h
        refine z_join μ 22 [(0, .ref (zb g + a0))] [] ?_ (fun k36 => ?_)
        · refine z_aload_n C0 dX4_passHour_22 rfl 0 rfl ?_
          refine z_aload_n C0 dX4_passHour_23 rfl 0 rfl ?_
          refine z_iconst (v := (0 : Int32)) C0 dX4_passHour_24 (by decide) ?_
          obtain ⟨r7, e_r7, h⟩ := zbd_of h
          refine z_callV (As := [.int (0 : Int32)]) (rest := [.ref (zb g + a0)]) C0 rfl kc_X4_driftAlong km_RX4_134 (r_X4_driftAlong (l := l) (g := g) a0 (0 : Int32) μ hT0 e_r7) hT0.1 hT0.2.2.1 rfl (by decide) rfl (Nat.le_of_ble_eq_true rfl) (Nat.le_of_ble_eq_true rfl) (Nat.le_of_ble_eq_true rfl) (Nat.le_of_ble_eq_true rfl) (Nat.le_refl _) rfl rfl dX4_passHour_25 ?_
          refine z_aload_n C0 dX4_passHour_28 rfl 0 rfl ?_
          refine z_iconst (v := (1 : Int32)) C0 dX4_passHour_29 (by decide) ?_
          obtain ⟨r8, e_r8, h⟩ := zbd_of h
          refine z_callV (As := [.int (1 : Int32)]) (rest := [.int r7, .ref (zb g + a0)]) C0 rfl kc_X4_driftAlong km_RX4_134 (r_X4_driftAlong (l := l) (g := g) a0 (1 : Int32) μ hT0 e_r8) hT0.1 hT0.2.2.1 rfl (by decide) rfl (Nat.le_of_ble_eq_true rfl) (Nat.le_of_ble_eq_true rfl) (Nat.le_of_ble_eq_true rfl) (Nat.le_of_ble_eq_true rfl) (Nat.le_refl _) rfl rfl dX4_passHour_30 ?_
          obtain ⟨μ9, e_μ9, h⟩ := zbd_of h
          refine z_callV (As := [.int r7, .int r8]) (rest := []) C0 rfl kc_X4_move km_RX4_137 (r_X4_move (l := l) (g := g) a0 r7 r8 μ hT0 e_μ9) hT0.1 hT0.2.2.1 rfl (by decide) rfl (Nat.le_of_ble_eq_true rfl) (Nat.le_of_ble_eq_true rfl) (Nat.le_of_ble_eq_true rfl) (Nat.le_of_ble_eq_true rfl) (Nat.le_refl _) rfl rfl dX4_passHour_33 ?_
          obtain rfl := (Option.some.inj h)
          exact k_J6
        · refine z_if_ne C0 36 dX4_passHour_12 (by decide) (fun c4 => ?_) (fun c4 => ?_)
          · exact absurd hc35 (fun q => c4 q.1)
          · refine z_aload_n C0 dX4_passHour_15 rfl 0 rfl ?_
            refine z_geti C0 hT0.1 hT0.2.2.1 kf_4_39 zr_4_9 dX4_passHour_16 ?_
            refine z_if_ne C0 36 dX4_passHour_19 (by decide) (fun c5 => ?_) (fun c5 => ?_)
            · exact absurd hc35 (fun q => (fun q => c5 q) q.2)
            · exact k36
      · have h := zif_f hc35 h
        refine z_join μ 36 [(0, .ref (zb g + a0))] [] ?_ (fun k37 => ?_)
        · obtain rfl := (Option.some.inj h)
          exact k_J6
        · refine z_if_ne C0 36 dX4_passHour_12 (by decide) (fun c4 => ?_) (fun c4 => ?_)
          · exact k37
          · refine z_aload_n C0 dX4_passHour_15 rfl 0 rfl ?_
            refine z_geti C0 hT0.1 hT0.2.2.1 kf_4_39 zr_4_9 dX4_passHour_16 ?_
            refine z_if_ne C0 36 dX4_passHour_19 (by decide) (fun c5 => ?_) (fun c5 => ?_)
            · exact k37
            · exact absurd ⟨c4, c5⟩ hc35
  · have h := zif_f c1 h
    have h := Option.some.inj h
    obtain rfl := h
    exact z_vret C0 rfl dX4_passHour_7
def f_X4_sailBySeed_L5 (a0 : Nat) (v2 : Int32) : Nat → Int32 → Int32 → zM → Option (zM)
  | 0, _, _, _ => none
  | n + 1, y2, y3, μ4 =>
    if v2 ≤ y3 then
      some μ4
    else
      zl (f_X4_afterSeed y2) fun x6 =>
      zl ((zushr x6 (16 : Int32)) % (5 : Int32)) fun x7 =>
      zl2 (f_X4_calms a0 μ4) fun r8 μ9 =>
      zl2 (if (4 : Int32) ≤ x7 then
          (x6, μ9)
        else
          zl (f_X4_afterSeed x6) fun x12 =>
          zl (zup μ9 a0 10 x7) fun μ13 =>
          zl (zup μ13 a0 11 (((zushr x12 (16 : Int32)) % (9 : Int32)) + (1 : Int32))) fun μ14 =>
          (x12, μ14)) fun x15 μ16 =>
      zbd (f_X4_passHour a0 μ16) fun μ17 =>
      zl (y3 + (1 : Int32)) fun x18 =>
      f_X4_sailBySeed_L5 a0 v2 n x15 x18 μ17
def f_X4_sailBySeed (a0 : Nat) (v1 : Int32) (v2 : Int32) (μ : zM) : Option (zM) :=
  zbd (f_X4_sailBySeed_L5 a0 v2 zFU v1 (0 : Int32) μ) fun μ19 =>
  some μ19
set_option maxHeartbeats 4000000 in
set_option maxRecDepth 100000 in
theorem r_X4_sailBySeed_L5 {l : Launch} {g : zL} {p : Program} {e : Env} {s : State} {m : MethodId} {args : Array Value} {below : List Frame} {meth : Method} {c : Code} {Q : State → Prop} (C0 : zC p s m args meth c g cX4_sailBySeed yX4_sailBySeed 6 none) (a0 : Nat) (v2 : Int32) (hU1 : zT zNN zσ1 a0 4) : ∀ (n : Nat) (y2 : Int32) (y3 : Int32) (μ4 : zM) (μ19 : zM), f_X4_sailBySeed_L5 a0 v2 n y2 y3 μ4 = some μ19 → Z p l e (zrm 4 0 0) s m args below meth c g Q 6 zNN 0 0 zσ1 μ19 69 [] [] → Z p l e (zrm 4 0 0) s m args below meth c g Q 6 zNN 0 0 zσ1 μ4 5 [(0, .ref (zb g + a0)), (2, .int v2), (3, .int y2), (4, .int y3)] [] := by
  intro n
  induction n with
  | zero =>
    intro y2 y3 μ4 μ19 h kx
    rw [f_X4_sailBySeed_L5] at h
    cases h
  | succ n ih =>
    intro y2 y3 μ4 μ19 h kx
    rw [f_X4_sailBySeed_L5] at h
    refine z_iload C0 dX4_sailBySeed_5 3 rfl ?_
    refine z_iload_n C0 dX4_sailBySeed_7 rfl 1 rfl ?_
    refine z_icmp_ge C0 69 dX4_sailBySeed_8 (by decide) (fun c5 => ?_) (fun c5 => ?_)
    · have h := zif_t c5 h
      refine z_sub (lo1 := []) [] rfl ?_
      obtain rfl := (Option.some.inj h)
      exact kx
    · have h := zif_f c5 h
      refine z_iload_n C0 dX4_sailBySeed_11 rfl 2 rfl ?_
      refine z_callS (As := [.int y2]) (rest := []) C0 rfl kc_X4_afterSeed km_RX4_190 (r_X4_afterSeed (l := l) (g := g) (μ := μ4) y2 rfl) rfl (Nat.le_of_ble_eq_true rfl) (Nat.le_of_ble_eq_true rfl) (Nat.le_of_ble_eq_true rfl) (Nat.le_of_ble_eq_true rfl) (Nat.le_refl _) rfl rfl dX4_sailBySeed_12 ?_
      obtain ⟨x6, e_x6, h⟩ := zl_of h
      refine z_nm e_x6 ?_
      refine z_istore_n (lo1 := [(3, .int x6), (0, .ref (zb g + a0)), (2, .int v2), (4, .int y3)]) C0 dX4_sailBySeed_15 rfl (by decide) rfl ?_
      refine z_iload_n C0 dX4_sailBySeed_16 rfl 0 rfl ?_
      refine z_bipush (v := (16 : Int32)) C0 dX4_sailBySeed_17 (by decide) ?_
      refine z_iushr C0 dX4_sailBySeed_19 ?_
      refine z_iconst (v := (5 : Int32)) C0 dX4_sailBySeed_20 (by decide) ?_
      refine z_irem C0 dX4_sailBySeed_21 (by decide) ?_
      obtain ⟨x7, e_x7, h⟩ := zl_of h
      refine z_nm e_x7 ?_
      refine z_istore (lo1 := [(5, .int x7), (3, .int x6), (0, .ref (zb g + a0)), (2, .int v2), (4, .int y3)]) C0 dX4_sailBySeed_22 (by decide) rfl ?_
      refine z_aload_n C0 dX4_sailBySeed_24 rfl 2 rfl ?_
      obtain ⟨r8, μ9, e_r8, h⟩ := zl2_of h
      refine z_callV (As := []) (rest := []) C0 rfl kc_X4_calms km_RX4_153 (r_X4_calms (l := l) (g := g) a0 μ4 hU1 e_r8) hU1.1 hU1.2.2.1 rfl (by decide) rfl (Nat.le_of_ble_eq_true rfl) (Nat.le_of_ble_eq_true rfl) (Nat.le_of_ble_eq_true rfl) (Nat.le_of_ble_eq_true rfl) (Nat.le_refl _) rfl rfl dX4_sailBySeed_25 ?_
      refine z_pop C0 dX4_sailBySeed_28 rfl ?_
      refine z_iload C0 dX4_sailBySeed_29 0 rfl ?_
      refine z_iconst (v := (4 : Int32)) C0 dX4_sailBySeed_31 (by decide) ?_
      obtain ⟨x15, μ16, e_x15, h⟩ := zl2_of h
      refine z_join μ16 59 [(0, .ref (zb g + a0)), (2, .int v2), (3, .int x15), (4, .int y3)] [] ?_ (fun k_J11 => ?_)
      · refine z_aload_n C0 dX4_sailBySeed_59 rfl 0 rfl ?_
        obtain ⟨μ17, e_μ17, h⟩ := zbd_of h
        refine z_callV (As := []) (rest := []) C0 rfl kc_X4_passHour km_RX4_167 (r_X4_passHour (l := l) (g := g) a0 μ16 hU1 e_μ17) hU1.1 hU1.2.2.1 rfl (by decide) rfl (Nat.le_of_ble_eq_true rfl) (Nat.le_of_ble_eq_true rfl) (Nat.le_of_ble_eq_true rfl) (Nat.le_of_ble_eq_true rfl) (Nat.le_refl _) rfl rfl dX4_sailBySeed_60 ?_
        obtain ⟨x18, e_x18, h⟩ := zl_of h
        refine z_iinc (lo1 := [(4, .int x18), (0, .ref (zb g + a0)), (2, .int v2), (3, .int x15)]) C0 dX4_sailBySeed_63 3 rfl (by decide) e_x18.symm (by decide) rfl ?_
        refine z_goto C0 5 dX4_sailBySeed_66 (by decide) ?_
        refine z_sub (lo1 := [(0, .ref (zb g + a0)), (2, .int v2), (3, .int x15), (4, .int x18)]) [1, 2, 3, 0] rfl ?_
        exact ih _ _ _ _ h kx
      · have h := e_x15
        refine z_icmp_ge C0 59 dX4_sailBySeed_32 (by decide) (fun c10 => ?_) (fun c10 => ?_)
        · have h := zif_t c10 h
          refine z_sub (lo1 := [(0, .ref (zb g + a0)), (2, .int v2), (3, .int x6), (4, .int y3)]) [2, 3, 1, 4] rfl ?_
          obtain ⟨rfl, rfl⟩ := Prod.mk.inj h
          exact k_J11
        · have h := zif_f c10 h
          refine z_iload_n C0 dX4_sailBySeed_35 rfl 1 rfl ?_
          refine z_callS (As := [.int x6]) (rest := []) C0 rfl kc_X4_afterSeed km_RX4_190 (r_X4_afterSeed (l := l) (g := g) (μ := μ9) x6 rfl) rfl (Nat.le_of_ble_eq_true rfl) (Nat.le_of_ble_eq_true rfl) (Nat.le_of_ble_eq_true rfl) (Nat.le_of_ble_eq_true rfl) (Nat.le_refl _) rfl rfl dX4_sailBySeed_36 ?_
          obtain ⟨x12, e_x12, h⟩ := zl_of h
          refine z_nm e_x12 ?_
          refine z_istore_n (lo1 := [(3, .int x12), (5, .int x7), (0, .ref (zb g + a0)), (2, .int v2), (4, .int y3)]) C0 dX4_sailBySeed_39 rfl (by decide) rfl ?_
          refine z_aload_n C0 dX4_sailBySeed_40 rfl 2 rfl ?_
          refine z_iload C0 dX4_sailBySeed_41 1 rfl ?_
          obtain ⟨μ13, e_μ13, h⟩ := zl_of h
          refine z_puti C0 hU1.1 hU1.2.2.1 kf_4_42 zp_4_10 zr_4_10 e_μ13 dX4_sailBySeed_43 ?_
          refine z_aload_n C0 dX4_sailBySeed_46 rfl 2 rfl ?_
          refine z_iload_n C0 dX4_sailBySeed_47 rfl 0 rfl ?_
          refine z_bipush (v := (16 : Int32)) C0 dX4_sailBySeed_48 (by decide) ?_
          refine z_iushr C0 dX4_sailBySeed_50 ?_
          refine z_bipush (v := (9 : Int32)) C0 dX4_sailBySeed_51 (by decide) ?_
          refine z_irem C0 dX4_sailBySeed_53 (by decide) ?_
          refine z_iconst (v := (1 : Int32)) C0 dX4_sailBySeed_54 (by decide) ?_
          refine z_iadd C0 dX4_sailBySeed_55 ?_
          obtain ⟨μ14, e_μ14, h⟩ := zl_of h
          refine z_puti C0 hU1.1 hU1.2.2.1 kf_4_45 zp_4_11 zr_4_11 e_μ14 dX4_sailBySeed_56 ?_
          refine z_sub (lo1 := [(0, .ref (zb g + a0)), (2, .int v2), (3, .int x12), (4, .int y3)]) [2, 3, 0, 4] rfl ?_
          obtain ⟨rfl, rfl⟩ := Prod.mk.inj h
          exact k_J11
set_option maxHeartbeats 4000000 in
set_option maxRecDepth 100000 in
theorem r_X4_sailBySeed {l : Launch} {g : zL} (a0 : Nat) (v1 : Int32) (v2 : Int32) (μ : zM) (hT0 : zT zNN zσ1 a0 4) {μr : zM} (h : f_X4_sailBySeed a0 v1 v2 μ = some μr) : zMet l g yX4_sailBySeed cX4_sailBySeed 6 none 4 0 0 zNN zNN zσ1 zσ1 [.ref (zb g + a0), .int v1, .int v2] μ none μr := by
  refine zMet.of (by decide +kernel) (Nat.le_of_ble_eq_true rfl) ?_
  intro p e s m args below meth c C0
  refine z_loc (lo1 := [(0, .ref (zb g + a0)), (1, .int v1), (2, .int v2)]) rfl ?_
  unfold f_X4_sailBySeed at h
  refine z_iload_n C0 dX4_sailBySeed_0 rfl 1 rfl ?_
  refine z_istore_n (lo1 := [(3, .int v1), (0, .ref (zb g + a0)), (1, .int v1), (2, .int v2)]) C0 dX4_sailBySeed_1 rfl (by decide) rfl ?_
  refine z_iconst (v := (0 : Int32)) C0 dX4_sailBySeed_2 (by decide) ?_
  refine z_istore (lo1 := [(4, .int (0 : Int32)), (3, .int v1), (0, .ref (zb g + a0)), (1, .int v1), (2, .int v2)]) C0 dX4_sailBySeed_3 (by decide) rfl ?_
  refine z_sub (lo1 := [(0, .ref (zb g + a0)), (2, .int v2), (3, .int v1), (4, .int (0 : Int32))]) [2, 4, 1, 0] rfl ?_
  obtain ⟨μ19, e_μ19, h⟩ := zbd_of h
  refine r_X4_sailBySeed_L5 C0 a0 v2 hT0 zFU v1 (0 : Int32) μ μ19 e_μ19 ?_
  have h := Option.some.inj h
  obtain rfl := h
  exact z_vret C0 rfl dX4_sailBySeed_69
def f_X4_hasMourner (a0 : Nat) (v1 : Int32) (μ : zM) : Option (Int32) :=
  zbd (zbd (if (5 : Int32) ≤ v1 then
        some false
      else
        zg (zgk (μ a0 0) 1) <|
        if (f_X6_has (((μ a0 0).toNatClampNeg) + 8) v1 μ) = 0 then
          some false
        else
          some true) fun b5 =>
    if b5 = true then
      some (1 : Int32)
    else
      some (0 : Int32)) fun x7 =>
  zg (z01 x7) <|
  some x7
set_option maxHeartbeats 4000000 in
set_option maxRecDepth 100000 in
theorem r_X4_hasMourner {l : Launch} {g : zL} (a0 : Nat) (v1 : Int32) (μ : zM) (hT0 : zT zNN zσ1 a0 4) {rv : Int32} (h : f_X4_hasMourner a0 v1 μ = some rv) : zMet l g yX4_hasMourner cX4_hasMourner 2 (some (.boolean)) 1 0 0 zNN zNN zσ1 zσ1 [.ref (zb g + a0), .int v1] μ (some (.int rv)) μ := by
  refine zMet.of (by decide +kernel) (Nat.le_of_ble_eq_true rfl) ?_
  intro p e s m args below meth c C0
  refine z_loc (lo1 := [(0, .ref (zb g + a0)), (1, .int v1)]) rfl ?_
  unfold f_X4_hasMourner at h
  refine z_iload_n C0 dX4_hasMourner_0 rfl 1 rfl ?_
  refine z_iconst (v := (5 : Int32)) C0 dX4_hasMourner_1 (by decide) ?_
  obtain ⟨x7, e_x7, h⟩ := zbd_of h
  refine z_join μ 24 [] [.int x7] ?_ (fun k_J6 => ?_)
  · obtain ⟨g8, h⟩ := zg_of h
    have h := Option.some.inj h
    obtain rfl := h
    exact z_zret C0 rfl g8 dX4_hasMourner_24
  · have h := e_x7
    obtain ⟨b5, e_b5, h⟩ := zbd_of h
    refine z_joinb b5 μ 19 23 [(0, .ref (zb g + a0)), (1, .int v1)] [] (fun z11 => ?_) (fun z11 => ?_) (fun k9 k10 => ?_)
    · have h := zif_t z11 h
      refine z_iconst (v := (1 : Int32)) C0 dX4_hasMourner_19 (by decide) ?_
      refine z_goto C0 24 dX4_hasMourner_20 (by decide) ?_
      refine z_sub (lo1 := []) [] rfl ?_
      obtain rfl := (Option.some.inj h)
      exact k_J6
    · have h := zif_f (fun q => Bool.noConfusion (z11.symm.trans q)) h
      refine z_iconst (v := (0 : Int32)) C0 dX4_hasMourner_23 (by decide) ?_
      refine z_sub (lo1 := []) [] rfl ?_
      obtain rfl := (Option.some.inj h)
      exact k_J6
    · have h := e_b5
      refine z_icmp_ge C0 23 dX4_hasMourner_2 (by decide) (fun c1 => ?_) (fun c1 => ?_)
      · have h := zif_t c1 h
        exact k10 (Option.some.inj h).symm
      · have h := zif_f c1 h
        refine z_aload_n C0 dX4_hasMourner_5 rfl 0 rfl ?_
        obtain ⟨g3, h⟩ := zg_of h
        refine z_getd C0 hT0.1 hT0.2.2.1 kf_4_18 zr_4_0 (zgk_T g3 (by decide)).1 dX4_hasMourner_6 ?_
        refine z_getr C0 (zgk_T g3 (by decide)).2 kf_4_77 zr_1_4 zx_1 (zs_1_4 (zgk_T g3 (by decide)).2).1 dX4_hasMourner_9 ?_
        refine z_iload_n C0 dX4_hasMourner_12 rfl 1 rfl ?_
        refine z_callV (As := [.int v1]) (rest := []) C0 rfl kc_X6_has km_RX4_81 (r_X6_has (l := l) (g := g) (((μ a0 0).toNatClampNeg) + 8) v1 μ (zs_1_4 (zgk_T g3 (by decide)).2).2 rfl) (zs_1_4 (zgk_T g3 (by decide)).2).2.1 (zs_1_4 (zgk_T g3 (by decide)).2).2.2.2.1 rfl (by decide) rfl (Nat.le_of_ble_eq_true rfl) (Nat.le_of_ble_eq_true rfl) (Nat.le_of_ble_eq_true rfl) (Nat.le_of_ble_eq_true rfl) (Nat.le_refl _) rfl rfl dX4_hasMourner_13 ?_
        refine z_if_eq C0 23 dX4_hasMourner_16 (by decide) (fun c4 => ?_) (fun c4 => ?_)
        · have h := zif_t c4 h
          exact k10 (Option.some.inj h).symm
        · have h := zif_f c4 h
          exact k9 (Option.some.inj h).symm
def f_X4_takesAboard (a0 : Nat) (v1 : Int32) (v2 : Int32) (μ : zM) : Option (Int32 × zM) :=
  zbd (f_X4_hasMourner a0 v1 μ) fun r1 =>
  zbd (if r1 = 0 then
      some false
    else
      zbd (f_X4_hasPlace a0 v2 μ) fun r4 =>
      if r4 = 0 then
        some false
      else
        zg (zin v1 5) <|
        if ¬ (μ (a0 + 1) (v1.toNatClampNeg)) = v2 then
          some true
        else
          some false) fun b9 =>
  if b9 = true then
    zg (zin v1 5) <|
    zl (zup μ (a0 + 1) (v1.toNatClampNeg) v2) fun μ11 =>
    some ((1 : Int32), μ11)
  else
    some ((0 : Int32), μ)
set_option maxHeartbeats 4000000 in
set_option maxRecDepth 100000 in
theorem r_X4_takesAboard {l : Launch} {g : zL} (a0 : Nat) (v1 : Int32) (v2 : Int32) (μ : zM) (hT0 : zT zNN zσ1 a0 4) {rv : Int32} {μr : zM} (h : f_X4_takesAboard a0 v1 v2 μ = some (rv, μr)) : zMet l g yX4_takesAboard cX4_takesAboard 3 (some (.boolean)) 2 0 0 zNN zNN zσ1 zσ1 [.ref (zb g + a0), .int v1, .int v2] μ (some (.int rv)) μr := by
  refine zMet.of (by decide +kernel) (Nat.le_of_ble_eq_true rfl) ?_
  intro p e s m args below meth c C0
  refine z_loc (lo1 := [(0, .ref (zb g + a0)), (1, .int v1), (2, .int v2)]) rfl ?_
  unfold f_X4_takesAboard at h
  refine z_aload_n C0 dX4_takesAboard_0 rfl 0 rfl ?_
  refine z_iload_n C0 dX4_takesAboard_1 rfl 1 rfl ?_
  obtain ⟨r1, e_r1, h⟩ := zbd_of h
  refine z_callV (As := [.int v1]) (rest := []) C0 rfl kc_X4_hasMourner km_RX4_170 (r_X4_hasMourner (l := l) (g := g) a0 v1 μ hT0 e_r1) hT0.1 hT0.2.2.1 rfl (by decide) rfl (Nat.le_of_ble_eq_true rfl) (Nat.le_of_ble_eq_true rfl) (Nat.le_of_ble_eq_true rfl) (Nat.le_of_ble_eq_true rfl) (Nat.le_refl _) rfl rfl dX4_takesAboard_2 ?_
  obtain ⟨b9, e_b9, h⟩ := zbd_of h
  refine z_joinb b9 μ 28 26 [(0, .ref (zb g + a0)), (1, .int v1), (2, .int v2)] [] (fun z14 => ?_) (fun z14 => ?_) (fun k12 k13 => ?_)
  · have h := zif_t z14 h
    refine z_aload_n C0 dX4_takesAboard_28 rfl 0 rfl ?_
    refine z_getr C0 hT0 kf_4_9 zr_4_12 zx_4 (zs_4_12 hT0).1 dX4_takesAboard_29 ?_
    refine z_iload_n C0 dX4_takesAboard_32 rfl 1 rfl ?_
    refine z_iload_n C0 dX4_takesAboard_33 rfl 2 rfl ?_
    obtain ⟨g10, h⟩ := zg_of h
    obtain ⟨μ11, e_μ11, h⟩ := zl_of h
    refine z_iast C0 (zs_4_12 hT0).2 g10 rfl e_μ11 dX4_takesAboard_34 ?_
    refine z_iconst (v := (1 : Int32)) C0 dX4_takesAboard_35 (by decide) ?_
    have h := Option.some.inj h
    obtain ⟨rfl, rfl⟩ := Prod.mk.inj h
    exact z_zret C0 rfl (by decide) dX4_takesAboard_36
  · have h := zif_f (fun q => Bool.noConfusion (z14.symm.trans q)) h
    refine z_iconst (v := (0 : Int32)) C0 dX4_takesAboard_26 (by decide) ?_
    have h := Option.some.inj h
    obtain ⟨rfl, rfl⟩ := Prod.mk.inj h
    exact z_zret C0 rfl (by decide) dX4_takesAboard_27
  · have h := e_b9
    refine z_if_eq C0 26 dX4_takesAboard_5 (by decide) (fun c2 => ?_) (fun c2 => ?_)
    · have h := zif_t c2 h
      exact k13 (Option.some.inj h).symm
    · have h := zif_f c2 h
      refine z_aload_n C0 dX4_takesAboard_8 rfl 0 rfl ?_
      refine z_iload_n C0 dX4_takesAboard_9 rfl 2 rfl ?_
      obtain ⟨r4, e_r4, h⟩ := zbd_of h
      refine z_callV (As := [.int v2]) (rest := []) C0 rfl kc_X4_hasPlace km_RX4_87 (r_X4_hasPlace (l := l) (g := g) a0 v2 μ hT0 e_r4) hT0.1 hT0.2.2.1 rfl (by decide) rfl (Nat.le_of_ble_eq_true rfl) (Nat.le_of_ble_eq_true rfl) (Nat.le_of_ble_eq_true rfl) (Nat.le_of_ble_eq_true rfl) (Nat.le_refl _) rfl rfl dX4_takesAboard_10 ?_
      refine z_if_eq C0 26 dX4_takesAboard_13 (by decide) (fun c5 => ?_) (fun c5 => ?_)
      · have h := zif_t c5 h
        exact k13 (Option.some.inj h).symm
      · have h := zif_f c5 h
        refine z_aload_n C0 dX4_takesAboard_16 rfl 0 rfl ?_
        refine z_getr C0 hT0 kf_4_9 zr_4_12 zx_4 (zs_4_12 hT0).1 dX4_takesAboard_17 ?_
        refine z_iload_n C0 dX4_takesAboard_20 rfl 1 rfl ?_
        obtain ⟨g7, h⟩ := zg_of h
        refine z_iald C0 (zs_4_12 hT0).2 g7 rfl dX4_takesAboard_21 ?_
        refine z_iload_n C0 dX4_takesAboard_22 rfl 2 rfl ?_
        refine z_icmp_ne C0 28 dX4_takesAboard_23 (by decide) (fun c8 => ?_) (fun c8 => ?_)
        · have h := zif_t c8 h
          exact k12 (Option.some.inj h).symm
        · have h := zif_f (fun q => q c8) h
          exact k13 (Option.some.inj h).symm
def f_X4_setsAshore (a0 : Nat) (v1 : Int32) (μ : zM) : Option (Int32 × zM) :=
  zbd (f_X4_hasMourner a0 v1 μ) fun r1 =>
  zbd (if r1 = 0 then
      some false
    else
      zg (zin v1 5) <|
      if ¬ (μ (a0 + 1) (v1.toNatClampNeg)) = (-1 : Int32) then
        some true
      else
        some false) fun b6 =>
  if b6 = true then
    zg (zin v1 5) <|
    zl (zup μ (a0 + 1) (v1.toNatClampNeg) (-1 : Int32)) fun μ8 =>
    some ((1 : Int32), μ8)
  else
    some ((0 : Int32), μ)
set_option maxHeartbeats 4000000 in
set_option maxRecDepth 100000 in
theorem r_X4_setsAshore {l : Launch} {g : zL} (a0 : Nat) (v1 : Int32) (μ : zM) (hT0 : zT zNN zσ1 a0 4) {rv : Int32} {μr : zM} (h : f_X4_setsAshore a0 v1 μ = some (rv, μr)) : zMet l g yX4_setsAshore cX4_setsAshore 2 (some (.boolean)) 2 0 0 zNN zNN zσ1 zσ1 [.ref (zb g + a0), .int v1] μ (some (.int rv)) μr := by
  refine zMet.of (by decide +kernel) (Nat.le_of_ble_eq_true rfl) ?_
  intro p e s m args below meth c C0
  refine z_loc (lo1 := [(0, .ref (zb g + a0)), (1, .int v1)]) rfl ?_
  unfold f_X4_setsAshore at h
  refine z_aload_n C0 dX4_setsAshore_0 rfl 0 rfl ?_
  refine z_iload_n C0 dX4_setsAshore_1 rfl 1 rfl ?_
  obtain ⟨r1, e_r1, h⟩ := zbd_of h
  refine z_callV (As := [.int v1]) (rest := []) C0 rfl kc_X4_hasMourner km_RX4_170 (r_X4_hasMourner (l := l) (g := g) a0 v1 μ hT0 e_r1) hT0.1 hT0.2.2.1 rfl (by decide) rfl (Nat.le_of_ble_eq_true rfl) (Nat.le_of_ble_eq_true rfl) (Nat.le_of_ble_eq_true rfl) (Nat.le_of_ble_eq_true rfl) (Nat.le_refl _) rfl rfl dX4_setsAshore_2 ?_
  obtain ⟨b6, e_b6, h⟩ := zbd_of h
  refine z_joinb b6 μ 20 18 [(0, .ref (zb g + a0)), (1, .int v1)] [] (fun z11 => ?_) (fun z11 => ?_) (fun k9 k10 => ?_)
  · have h := zif_t z11 h
    refine z_aload_n C0 dX4_setsAshore_20 rfl 0 rfl ?_
    refine z_getr C0 hT0 kf_4_9 zr_4_12 zx_4 (zs_4_12 hT0).1 dX4_setsAshore_21 ?_
    refine z_iload_n C0 dX4_setsAshore_24 rfl 1 rfl ?_
    refine z_iconst (v := (-1 : Int32)) C0 dX4_setsAshore_25 (by decide) ?_
    obtain ⟨g7, h⟩ := zg_of h
    obtain ⟨μ8, e_μ8, h⟩ := zl_of h
    refine z_iast C0 (zs_4_12 hT0).2 g7 rfl e_μ8 dX4_setsAshore_26 ?_
    refine z_iconst (v := (1 : Int32)) C0 dX4_setsAshore_27 (by decide) ?_
    have h := Option.some.inj h
    obtain ⟨rfl, rfl⟩ := Prod.mk.inj h
    exact z_zret C0 rfl (by decide) dX4_setsAshore_28
  · have h := zif_f (fun q => Bool.noConfusion (z11.symm.trans q)) h
    refine z_iconst (v := (0 : Int32)) C0 dX4_setsAshore_18 (by decide) ?_
    have h := Option.some.inj h
    obtain ⟨rfl, rfl⟩ := Prod.mk.inj h
    exact z_zret C0 rfl (by decide) dX4_setsAshore_19
  · have h := e_b6
    refine z_if_eq C0 18 dX4_setsAshore_5 (by decide) (fun c2 => ?_) (fun c2 => ?_)
    · have h := zif_t c2 h
      exact k10 (Option.some.inj h).symm
    · have h := zif_f c2 h
      refine z_aload_n C0 dX4_setsAshore_8 rfl 0 rfl ?_
      refine z_getr C0 hT0 kf_4_9 zr_4_12 zx_4 (zs_4_12 hT0).1 dX4_setsAshore_9 ?_
      refine z_iload_n C0 dX4_setsAshore_12 rfl 1 rfl ?_
      obtain ⟨g4, h⟩ := zg_of h
      refine z_iald C0 (zs_4_12 hT0).2 g4 rfl dX4_setsAshore_13 ?_
      refine z_iconst (v := (-1 : Int32)) C0 dX4_setsAshore_14 (by decide) ?_
      refine z_icmp_ne C0 20 dX4_setsAshore_15 (by decide) (fun c5 => ?_) (fun c5 => ?_)
      · have h := zif_t c5 h
        exact k9 (Option.some.inj h).symm
      · have h := zif_f (fun q => q c5) h
        exact k10 (Option.some.inj h).symm
def f_X4_freezes (a0 : Nat) (v1 : Int32) (μ : zM) : Option (Int32 × zM) :=
  zl (if (μ a0 8) = v1 then
      (0 : Int32)
    else
      (1 : Int32)) fun x3 =>
  zg (z01 v1) <|
  zl (zup μ a0 8 v1) fun μ5 =>
  some (x3, μ5)
set_option maxHeartbeats 4000000 in
set_option maxRecDepth 100000 in
theorem r_X4_freezes {l : Launch} {g : zL} (a0 : Nat) (v1 : Int32) (μ : zM) (hT0 : zT zNN zσ1 a0 4) {rv : Int32} {μr : zM} (h : f_X4_freezes a0 v1 μ = some (rv, μr)) : zMet l g yX4_freezes cX4_freezes 3 (some (.boolean)) 0 0 0 zNN zNN zσ1 zσ1 [.ref (zb g + a0), .int v1] μ (some (.int rv)) μr := by
  refine zMet.of (by decide +kernel) (Nat.le_of_ble_eq_true rfl) ?_
  intro p e s m args below meth c C0
  refine z_loc (lo1 := [(0, .ref (zb g + a0)), (1, .int v1)]) rfl ?_
  unfold f_X4_freezes at h
  refine z_aload_n C0 dX4_freezes_0 rfl 0 rfl ?_
  refine z_geti C0 hT0.1 hT0.2.2.1 kf_4_36 zr_4_8 dX4_freezes_1 ?_
  refine z_iload_n C0 dX4_freezes_4 rfl 1 rfl ?_
  obtain ⟨x3, e_x3, h⟩ := zl_of h
  refine z_join μ 13 [(0, .ref (zb g + a0)), (1, .int v1)] [.int x3] ?_ (fun k_J2 => ?_)
  · refine z_istore_n (lo1 := [(2, .int x3), (0, .ref (zb g + a0)), (1, .int v1)]) C0 dX4_freezes_13 rfl (by decide) rfl ?_
    refine z_aload_n C0 dX4_freezes_14 rfl 1 rfl ?_
    refine z_iload_n C0 dX4_freezes_15 rfl 2 rfl ?_
    obtain ⟨g4, h⟩ := zg_of h
    obtain ⟨μ5, e_μ5, h⟩ := zl_of h
    refine z_putb C0 hT0.1 hT0.2.2.1 kf_4_36 zp_4_8 zr_4_8 g4 e_μ5 dX4_freezes_16 ?_
    refine z_iload_n C0 dX4_freezes_19 rfl 0 rfl ?_
    have h := Option.some.inj h
    obtain ⟨rfl, rfl⟩ := Prod.mk.inj h
    exact z_zret C0 rfl (by rw [e_x3]; repeat' split <;> rfl) dX4_freezes_20
  · have h := e_x3.symm
    refine z_icmp_eq C0 12 dX4_freezes_5 (by decide) (fun c1 => ?_) (fun c1 => ?_)
    · have h := zif_t c1 h
      refine z_iconst (v := (0 : Int32)) C0 dX4_freezes_12 (by decide) ?_
      obtain rfl := h
      exact k_J2
    · have h := zif_f c1 h
      refine z_iconst (v := (1 : Int32)) C0 dX4_freezes_8 (by decide) ?_
      refine z_goto C0 13 dX4_freezes_9 (by decide) ?_
      obtain rfl := h
      exact k_J2
def f_X4_moors (a0 : Nat) (v1 : Int32) (μ : zM) : Option (Int32 × zM) :=
  zl (if (μ a0 9) = v1 then
      (0 : Int32)
    else
      (1 : Int32)) fun x3 =>
  zg (z01 v1) <|
  zl (zup μ a0 9 v1) fun μ5 =>
  some (x3, μ5)
set_option maxHeartbeats 4000000 in
set_option maxRecDepth 100000 in
theorem r_X4_moors {l : Launch} {g : zL} (a0 : Nat) (v1 : Int32) (μ : zM) (hT0 : zT zNN zσ1 a0 4) {rv : Int32} {μr : zM} (h : f_X4_moors a0 v1 μ = some (rv, μr)) : zMet l g yX4_moors cX4_moors 3 (some (.boolean)) 0 0 0 zNN zNN zσ1 zσ1 [.ref (zb g + a0), .int v1] μ (some (.int rv)) μr := by
  refine zMet.of (by decide +kernel) (Nat.le_of_ble_eq_true rfl) ?_
  intro p e s m args below meth c C0
  refine z_loc (lo1 := [(0, .ref (zb g + a0)), (1, .int v1)]) rfl ?_
  unfold f_X4_moors at h
  refine z_aload_n C0 dX4_moors_0 rfl 0 rfl ?_
  refine z_geti C0 hT0.1 hT0.2.2.1 kf_4_39 zr_4_9 dX4_moors_1 ?_
  refine z_iload_n C0 dX4_moors_4 rfl 1 rfl ?_
  obtain ⟨x3, e_x3, h⟩ := zl_of h
  refine z_join μ 13 [(0, .ref (zb g + a0)), (1, .int v1)] [.int x3] ?_ (fun k_J2 => ?_)
  · refine z_istore_n (lo1 := [(2, .int x3), (0, .ref (zb g + a0)), (1, .int v1)]) C0 dX4_moors_13 rfl (by decide) rfl ?_
    refine z_aload_n C0 dX4_moors_14 rfl 1 rfl ?_
    refine z_iload_n C0 dX4_moors_15 rfl 2 rfl ?_
    obtain ⟨g4, h⟩ := zg_of h
    obtain ⟨μ5, e_μ5, h⟩ := zl_of h
    refine z_putb C0 hT0.1 hT0.2.2.1 kf_4_39 zp_4_9 zr_4_9 g4 e_μ5 dX4_moors_16 ?_
    refine z_iload_n C0 dX4_moors_19 rfl 0 rfl ?_
    have h := Option.some.inj h
    obtain ⟨rfl, rfl⟩ := Prod.mk.inj h
    exact z_zret C0 rfl (by rw [e_x3]; repeat' split <;> rfl) dX4_moors_20
  · have h := e_x3.symm
    refine z_icmp_eq C0 12 dX4_moors_5 (by decide) (fun c1 => ?_) (fun c1 => ?_)
    · have h := zif_t c1 h
      refine z_iconst (v := (0 : Int32)) C0 dX4_moors_12 (by decide) ?_
      obtain rfl := h
      exact k_J2
    · have h := zif_f c1 h
      refine z_iconst (v := (1 : Int32)) C0 dX4_moors_8 (by decide) ?_
      refine z_goto C0 13 dX4_moors_9 (by decide) ?_
      obtain rfl := h
      exact k_J2
def f_X4_isBailed (a0 : Nat) (v1 : Int32) (μ : zM) : Option (Int32 × zM) :=
  zbd (f_X4_hasPlace a0 v1 μ) fun r1 =>
  zbd (if r1 = 0 then
      some false
    else
      zg (zin v1 16) <|
      if ¬ (μ (a0 + 2) (v1.toNatClampNeg)) = 0 then
        some true
      else
        some false) fun b6 =>
  if b6 = true then
    zg (zin v1 16) <|
    zl (zup μ (a0 + 2) (v1.toNatClampNeg) (0 : Int32)) fun μ8 =>
    some ((1 : Int32), μ8)
  else
    some ((0 : Int32), μ)
set_option maxHeartbeats 4000000 in
set_option maxRecDepth 100000 in
theorem r_X4_isBailed {l : Launch} {g : zL} (a0 : Nat) (v1 : Int32) (μ : zM) (hT0 : zT zNN zσ1 a0 4) {rv : Int32} {μr : zM} (h : f_X4_isBailed a0 v1 μ = some (rv, μr)) : zMet l g yX4_isBailed cX4_isBailed 2 (some (.boolean)) 2 0 0 zNN zNN zσ1 zσ1 [.ref (zb g + a0), .int v1] μ (some (.int rv)) μr := by
  refine zMet.of (by decide +kernel) (Nat.le_of_ble_eq_true rfl) ?_
  intro p e s m args below meth c C0
  refine z_loc (lo1 := [(0, .ref (zb g + a0)), (1, .int v1)]) rfl ?_
  unfold f_X4_isBailed at h
  refine z_aload_n C0 dX4_isBailed_0 rfl 0 rfl ?_
  refine z_iload_n C0 dX4_isBailed_1 rfl 1 rfl ?_
  obtain ⟨r1, e_r1, h⟩ := zbd_of h
  refine z_callV (As := [.int v1]) (rest := []) C0 rfl kc_X4_hasPlace km_RX4_87 (r_X4_hasPlace (l := l) (g := g) a0 v1 μ hT0 e_r1) hT0.1 hT0.2.2.1 rfl (by decide) rfl (Nat.le_of_ble_eq_true rfl) (Nat.le_of_ble_eq_true rfl) (Nat.le_of_ble_eq_true rfl) (Nat.le_of_ble_eq_true rfl) (Nat.le_refl _) rfl rfl dX4_isBailed_2 ?_
  obtain ⟨b6, e_b6, h⟩ := zbd_of h
  refine z_joinb b6 μ 19 17 [(0, .ref (zb g + a0)), (1, .int v1)] [] (fun z11 => ?_) (fun z11 => ?_) (fun k9 k10 => ?_)
  · have h := zif_t z11 h
    refine z_aload_n C0 dX4_isBailed_19 rfl 0 rfl ?_
    refine z_getr C0 hT0 kf_4_15 zr_4_13 zx_4 (zs_4_13 hT0).1 dX4_isBailed_20 ?_
    refine z_iload_n C0 dX4_isBailed_23 rfl 1 rfl ?_
    refine z_iconst (v := (0 : Int32)) C0 dX4_isBailed_24 (by decide) ?_
    obtain ⟨g7, h⟩ := zg_of h
    obtain ⟨μ8, e_μ8, h⟩ := zl_of h
    refine z_iast C0 (zs_4_13 hT0).2 g7 rfl e_μ8 dX4_isBailed_25 ?_
    refine z_iconst (v := (1 : Int32)) C0 dX4_isBailed_26 (by decide) ?_
    have h := Option.some.inj h
    obtain ⟨rfl, rfl⟩ := Prod.mk.inj h
    exact z_zret C0 rfl (by decide) dX4_isBailed_27
  · have h := zif_f (fun q => Bool.noConfusion (z11.symm.trans q)) h
    refine z_iconst (v := (0 : Int32)) C0 dX4_isBailed_17 (by decide) ?_
    have h := Option.some.inj h
    obtain ⟨rfl, rfl⟩ := Prod.mk.inj h
    exact z_zret C0 rfl (by decide) dX4_isBailed_18
  · have h := e_b6
    refine z_if_eq C0 17 dX4_isBailed_5 (by decide) (fun c2 => ?_) (fun c2 => ?_)
    · have h := zif_t c2 h
      exact k10 (Option.some.inj h).symm
    · have h := zif_f c2 h
      refine z_aload_n C0 dX4_isBailed_8 rfl 0 rfl ?_
      refine z_getr C0 hT0 kf_4_15 zr_4_13 zx_4 (zs_4_13 hT0).1 dX4_isBailed_9 ?_
      refine z_iload_n C0 dX4_isBailed_12 rfl 1 rfl ?_
      obtain ⟨g4, h⟩ := zg_of h
      refine z_iald C0 (zs_4_13 hT0).2 g4 rfl dX4_isBailed_13 ?_
      refine z_if_ne C0 19 dX4_isBailed_14 (by decide) (fun c5 => ?_) (fun c5 => ?_)
      · have h := zif_t c5 h
        exact k9 (Option.some.inj h).symm
      · have h := zif_f (fun q => q c5) h
        exact k10 (Option.some.inj h).symm
def f_X4_obeys_L138 (a0 : Nat) (v2 : Int32) : Nat → Int32 → zM → Option (zM)
  | 0, _, _ => none
  | n + 1, y35, μ36 =>
    if (¬ (v2 ≤ y35)) ∧ ((μ36 a0 7) = 0) then
      zbd (f_X4_passHour a0 μ36) fun μ39 =>
      zl (y35 + (1 : Int32)) fun x40 =>
      f_X4_obeys_L138 a0 v2 n x40 μ39
    else
      some μ36
def f_X4_obeys (a0 : Nat) (v1 : Int32) (v2 : Int32) (v3 : Int32) (μ : zM) : Option (Int32 × zM) :=
  if (μ a0 7) = 0 then
    if v1 = (0 : Int32) then
      zbd2 (f_X4_takesAboard a0 v2 v3 μ) fun r2 μ3 =>
      zg (z01 r2) <|
      some (r2, μ3)
    else
    if v1 = (1 : Int32) then
      zbd2 (f_X4_setsAshore a0 v2 μ) fun r5 μ6 =>
      zg (z01 r5) <|
      some (r5, μ6)
    else
    if v1 = (2 : Int32) then
      zl (zup μ a0 10 v2) fun μ8 =>
      zl (zup μ8 a0 11 v3) fun μ9 =>
      some ((1 : Int32), μ9)
    else
    if v1 = (3 : Int32) then
      zl2 (f_X4_calms a0 μ) fun r10 μ11 =>
      zg (z01 r10) <|
      some (r10, μ11)
    else
    if v1 = (4 : Int32) then
      zbd2 (f_X4_freezes a0 (1 : Int32) μ) fun r13 μ14 =>
      zg (z01 r13) <|
      some (r13, μ14)
    else
    if v1 = (5 : Int32) then
      zbd2 (f_X4_freezes a0 (0 : Int32) μ) fun r16 μ17 =>
      zg (z01 r16) <|
      some (r16, μ17)
    else
    if v1 = (6 : Int32) then
      zbd (f_X4_sides a0 μ) fun r19 =>
      zbd2 (if r19 = 0 then
          some ((0 : Int32), μ)
        else
          zbd2 (f_X4_moors a0 (1 : Int32) μ) fun r22 μ23 =>
          if r22 = 0 then
            some ((0 : Int32), μ23)
          else
            some ((1 : Int32), μ23)) fun x25 μ26 =>
      zg (z01 x25) <|
      some (x25, μ26)
    else
    if v1 = (7 : Int32) then
      zbd2 (f_X4_moors a0 (0 : Int32) μ) fun r28 μ29 =>
      zg (z01 r28) <|
      some (r28, μ29)
    else
    if v1 = (8 : Int32) then
      zbd2 (f_X4_isBailed a0 v2 μ) fun r31 μ32 =>
      zg (z01 r31) <|
      some (r31, μ32)
    else
      zbd (f_X4_obeys_L138 a0 v2 zFU (0 : Int32) μ) fun μ41 =>
      some ((1 : Int32), μ41)
  else
    some ((0 : Int32), μ)
set_option maxHeartbeats 4000000 in
set_option maxRecDepth 100000 in
theorem r_X4_obeys_L138 {l : Launch} {g : zL} {p : Program} {e : Env} {s : State} {m : MethodId} {args : Array Value} {below : List Frame} {meth : Method} {c : Code} {Q : State → Prop} (C0 : zC p s m args meth c g cX4_obeys yX4_obeys 5 (some (.boolean))) (a0 : Nat) (v2 : Int32) (hU34 : zT zNN zσ1 a0 4) : ∀ (n : Nat) (y35 : Int32) (μ36 : zM) (μ41 : zM), f_X4_obeys_L138 a0 v2 n y35 μ36 = some μ41 → Z p l e (zrm 4 0 0) s m args below meth c g Q 5 zNN 0 0 zσ1 μ41 161 [] [] → Z p l e (zrm 4 0 0) s m args below meth c g Q 5 zNN 0 0 zσ1 μ36 138 [(0, .ref (zb g + a0)), (2, .int v2), (4, .int y35)] [] := by
  intro n
  induction n with
  | zero =>
    intro y35 μ36 μ41 h kx
    rw [f_X4_obeys_L138] at h
    cases h
  | succ n ih =>
    intro y35 μ36 μ41 h kx
    rw [f_X4_obeys_L138] at h
    refine z_iload C0 dX4_obeys_138 2 rfl ?_
    refine z_iload_n C0 dX4_obeys_140 rfl 1 rfl ?_
    by_cases hc42 : (¬ (v2 ≤ y35)) ∧ ((μ36 a0 7) = 0)
    · have h := zif_t hc42 h
      refine z_join μ36 151 [(0, .ref (zb g + a0)), (2, .int v2), (4, .int y35)] [] ?_ (fun k43 => ?_)
      · refine z_aload_n C0 dX4_obeys_151 rfl 0 rfl ?_
        obtain ⟨μ39, e_μ39, h⟩ := zbd_of h
        refine z_callV (As := []) (rest := []) C0 rfl kc_X4_passHour km_RX4_167 (r_X4_passHour (l := l) (g := g) a0 μ36 hU34 e_μ39) hU34.1 hU34.2.2.1 rfl (by decide) rfl (Nat.le_of_ble_eq_true rfl) (Nat.le_of_ble_eq_true rfl) (Nat.le_of_ble_eq_true rfl) (Nat.le_of_ble_eq_true rfl) (Nat.le_refl _) rfl rfl dX4_obeys_152 ?_
        obtain ⟨x40, e_x40, h⟩ := zl_of h
        refine z_iinc (lo1 := [(4, .int x40), (0, .ref (zb g + a0)), (2, .int v2)]) C0 dX4_obeys_155 2 rfl (by decide) e_x40.symm (by decide) rfl ?_
        refine z_goto C0 138 dX4_obeys_158 (by decide) ?_
        refine z_sub (lo1 := [(0, .ref (zb g + a0)), (2, .int v2), (4, .int x40)]) [1, 2, 0] rfl ?_
        exact ih _ _ _ h kx
      · refine z_icmp_ge C0 161 dX4_obeys_141 (by decide) (fun c37 => ?_) (fun c37 => ?_)
        · exact absurd hc42 (fun q => q.1 c37)
        · refine z_aload_n C0 dX4_obeys_144 rfl 0 rfl ?_
          refine z_geti C0 hU34.1 hU34.2.2.1 kf_4_32 zr_4_7 dX4_obeys_145 ?_
          refine z_if_ne C0 161 dX4_obeys_148 (by decide) (fun c38 => ?_) (fun c38 => ?_)
          · exact absurd hc42 (fun q => (fun q => c38 q) q.2)
          · exact k43
    · have h := zif_f hc42 h
      refine z_join μ36 161 [(0, .ref (zb g + a0)), (2, .int v2), (4, .int y35)] [] ?_ (fun k44 => ?_)
      · refine z_sub (lo1 := []) [] rfl ?_
        obtain rfl := (Option.some.inj h)
        exact kx
      · refine z_icmp_ge C0 161 dX4_obeys_141 (by decide) (fun c37 => ?_) (fun c37 => ?_)
        · exact k44
        · refine z_aload_n C0 dX4_obeys_144 rfl 0 rfl ?_
          refine z_geti C0 hU34.1 hU34.2.2.1 kf_4_32 zr_4_7 dX4_obeys_145 ?_
          refine z_if_ne C0 161 dX4_obeys_148 (by decide) (fun c38 => ?_) (fun c38 => ?_)
          · exact k44
          · exact absurd ⟨c37, c38⟩ hc42
set_option maxHeartbeats 4000000 in
set_option maxRecDepth 100000 in
theorem r_X4_obeys {l : Launch} {g : zL} (a0 : Nat) (v1 : Int32) (v2 : Int32) (v3 : Int32) (μ : zM) (hT0 : zT zNN zσ1 a0 4) {rv : Int32} {μr : zM} (h : f_X4_obeys a0 v1 v2 v3 μ = some (rv, μr)) : zMet l g yX4_obeys cX4_obeys 5 (some (.boolean)) 4 0 0 zNN zNN zσ1 zσ1 [.ref (zb g + a0), .int v1, .int v2, .int v3] μ (some (.int rv)) μr := by
  refine zMet.of (by decide +kernel) (Nat.le_of_ble_eq_true rfl) ?_
  intro p e s m args below meth c C0
  refine z_loc (lo1 := [(0, .ref (zb g + a0)), (1, .int v1), (2, .int v2), (3, .int v3)]) rfl ?_
  unfold f_X4_obeys at h
  refine z_aload_n C0 dX4_obeys_0 rfl 0 rfl ?_
  refine z_geti C0 hT0.1 hT0.2.2.1 kf_4_32 zr_4_7 dX4_obeys_1 ?_
  refine z_if_eq C0 9 dX4_obeys_4 (by decide) (fun c1 => ?_) (fun c1 => ?_)
  · have h := zif_t c1 h
    refine z_iload_n C0 dX4_obeys_9 rfl 1 rfl ?_
    by_cases c45 : v1 = (0 : Int32)
    · have h := zif_t c45 h
      refine z_tabK C0 (50) 60 dX4_obeys_10 c45 (by decide) (by decide) (by decide) (by decide) ?_
      refine z_aload_n C0 dX4_obeys_60 rfl 0 rfl ?_
      refine z_iload_n C0 dX4_obeys_61 rfl 2 rfl ?_
      refine z_iload_n C0 dX4_obeys_62 rfl 3 rfl ?_
      obtain ⟨r2, μ3, e_r2, h⟩ := zbd2_of h
      refine z_callV (As := [.int v2, .int v3]) (rest := []) C0 rfl kc_X4_takesAboard km_RX4_146 (r_X4_takesAboard (l := l) (g := g) a0 v2 v3 μ hT0 e_r2) hT0.1 hT0.2.2.1 rfl (by decide) rfl (Nat.le_of_ble_eq_true rfl) (Nat.le_of_ble_eq_true rfl) (Nat.le_of_ble_eq_true rfl) (Nat.le_of_ble_eq_true rfl) (Nat.le_refl _) rfl rfl dX4_obeys_63 ?_
      obtain ⟨g4, h⟩ := zg_of h
      have h := Option.some.inj h
      obtain ⟨rfl, rfl⟩ := Prod.mk.inj h
      exact z_zret C0 rfl g4 dX4_obeys_66
    · have h := zif_f c45 h
      by_cases c46 : v1 = (1 : Int32)
      · have h := zif_t c46 h
        refine z_tabK C0 (57) 67 dX4_obeys_10 c46 (by decide) (by decide) (by decide) (by decide) ?_
        refine z_aload_n C0 dX4_obeys_67 rfl 0 rfl ?_
        refine z_iload_n C0 dX4_obeys_68 rfl 2 rfl ?_
        obtain ⟨r5, μ6, e_r5, h⟩ := zbd2_of h
        refine z_callV (As := [.int v2]) (rest := []) C0 rfl kc_X4_setsAshore km_RX4_150 (r_X4_setsAshore (l := l) (g := g) a0 v2 μ hT0 e_r5) hT0.1 hT0.2.2.1 rfl (by decide) rfl (Nat.le_of_ble_eq_true rfl) (Nat.le_of_ble_eq_true rfl) (Nat.le_of_ble_eq_true rfl) (Nat.le_of_ble_eq_true rfl) (Nat.le_refl _) rfl rfl dX4_obeys_69 ?_
        obtain ⟨g7, h⟩ := zg_of h
        have h := Option.some.inj h
        obtain ⟨rfl, rfl⟩ := Prod.mk.inj h
        exact z_zret C0 rfl g7 dX4_obeys_72
      · have h := zif_f c46 h
        by_cases c47 : v1 = (2 : Int32)
        · have h := zif_t c47 h
          refine z_tabK C0 (63) 73 dX4_obeys_10 c47 (by decide) (by decide) (by decide) (by decide) ?_
          refine z_aload_n C0 dX4_obeys_73 rfl 0 rfl ?_
          refine z_iload_n C0 dX4_obeys_74 rfl 2 rfl ?_
          obtain ⟨μ8, e_μ8, h⟩ := zl_of h
          refine z_puti C0 hT0.1 hT0.2.2.1 kf_4_42 zp_4_10 zr_4_10 e_μ8 dX4_obeys_75 ?_
          refine z_aload_n C0 dX4_obeys_78 rfl 0 rfl ?_
          refine z_iload_n C0 dX4_obeys_79 rfl 3 rfl ?_
          obtain ⟨μ9, e_μ9, h⟩ := zl_of h
          refine z_puti C0 hT0.1 hT0.2.2.1 kf_4_45 zp_4_11 zr_4_11 e_μ9 dX4_obeys_80 ?_
          refine z_iconst (v := (1 : Int32)) C0 dX4_obeys_83 (by decide) ?_
          have h := Option.some.inj h
          obtain ⟨rfl, rfl⟩ := Prod.mk.inj h
          exact z_zret C0 rfl (by decide) dX4_obeys_84
        · have h := zif_f c47 h
          by_cases c48 : v1 = (3 : Int32)
          · have h := zif_t c48 h
            refine z_tabK C0 (75) 85 dX4_obeys_10 c48 (by decide) (by decide) (by decide) (by decide) ?_
            refine z_aload_n C0 dX4_obeys_85 rfl 0 rfl ?_
            obtain ⟨r10, μ11, e_r10, h⟩ := zl2_of h
            refine z_callV (As := []) (rest := []) C0 rfl kc_X4_calms km_RX4_153 (r_X4_calms (l := l) (g := g) a0 μ hT0 e_r10) hT0.1 hT0.2.2.1 rfl (by decide) rfl (Nat.le_of_ble_eq_true rfl) (Nat.le_of_ble_eq_true rfl) (Nat.le_of_ble_eq_true rfl) (Nat.le_of_ble_eq_true rfl) (Nat.le_refl _) rfl rfl dX4_obeys_86 ?_
            obtain ⟨g12, h⟩ := zg_of h
            have h := Option.some.inj h
            obtain ⟨rfl, rfl⟩ := Prod.mk.inj h
            exact z_zret C0 rfl g12 dX4_obeys_89
          · have h := zif_f c48 h
            by_cases c49 : v1 = (4 : Int32)
            · have h := zif_t c49 h
              refine z_tabK C0 (80) 90 dX4_obeys_10 c49 (by decide) (by decide) (by decide) (by decide) ?_
              refine z_aload_n C0 dX4_obeys_90 rfl 0 rfl ?_
              refine z_iconst (v := (1 : Int32)) C0 dX4_obeys_91 (by decide) ?_
              obtain ⟨r13, μ14, e_r13, h⟩ := zbd2_of h
              refine z_callV (As := [.int (1 : Int32)]) (rest := []) C0 rfl kc_X4_freezes km_RX4_157 (r_X4_freezes (l := l) (g := g) a0 (1 : Int32) μ hT0 e_r13) hT0.1 hT0.2.2.1 rfl (by decide) rfl (Nat.le_of_ble_eq_true rfl) (Nat.le_of_ble_eq_true rfl) (Nat.le_of_ble_eq_true rfl) (Nat.le_of_ble_eq_true rfl) (Nat.le_refl _) rfl rfl dX4_obeys_92 ?_
              obtain ⟨g15, h⟩ := zg_of h
              have h := Option.some.inj h
              obtain ⟨rfl, rfl⟩ := Prod.mk.inj h
              exact z_zret C0 rfl g15 dX4_obeys_95
            · have h := zif_f c49 h
              by_cases c50 : v1 = (5 : Int32)
              · have h := zif_t c50 h
                refine z_tabK C0 (86) 96 dX4_obeys_10 c50 (by decide) (by decide) (by decide) (by decide) ?_
                refine z_aload_n C0 dX4_obeys_96 rfl 0 rfl ?_
                refine z_iconst (v := (0 : Int32)) C0 dX4_obeys_97 (by decide) ?_
                obtain ⟨r16, μ17, e_r16, h⟩ := zbd2_of h
                refine z_callV (As := [.int (0 : Int32)]) (rest := []) C0 rfl kc_X4_freezes km_RX4_157 (r_X4_freezes (l := l) (g := g) a0 (0 : Int32) μ hT0 e_r16) hT0.1 hT0.2.2.1 rfl (by decide) rfl (Nat.le_of_ble_eq_true rfl) (Nat.le_of_ble_eq_true rfl) (Nat.le_of_ble_eq_true rfl) (Nat.le_of_ble_eq_true rfl) (Nat.le_refl _) rfl rfl dX4_obeys_98 ?_
                obtain ⟨g18, h⟩ := zg_of h
                have h := Option.some.inj h
                obtain ⟨rfl, rfl⟩ := Prod.mk.inj h
                exact z_zret C0 rfl g18 dX4_obeys_101
              · have h := zif_f c50 h
                by_cases c51 : v1 = (6 : Int32)
                · have h := zif_t c51 h
                  refine z_tabK C0 (92) 102 dX4_obeys_10 c51 (by decide) (by decide) (by decide) (by decide) ?_
                  refine z_aload_n C0 dX4_obeys_102 rfl 0 rfl ?_
                  obtain ⟨r19, e_r19, h⟩ := zbd_of h
                  refine z_callV (As := []) (rest := []) C0 rfl kc_X4_sides km_RX4_57 (r_X4_sides (l := l) (g := g) a0 μ hT0 e_r19) hT0.1 hT0.2.2.1 rfl (by decide) rfl (Nat.le_of_ble_eq_true rfl) (Nat.le_of_ble_eq_true rfl) (Nat.le_of_ble_eq_true rfl) (Nat.le_of_ble_eq_true rfl) (Nat.le_refl _) rfl rfl dX4_obeys_103 ?_
                  obtain ⟨x25, μ26, e_x25, h⟩ := zbd2_of h
                  refine z_join μ26 122 [] [.int x25] ?_ (fun k_J21 => ?_)
                  · obtain ⟨g27, h⟩ := zg_of h
                    have h := Option.some.inj h
                    obtain ⟨rfl, rfl⟩ := Prod.mk.inj h
                    exact z_zret C0 rfl g27 dX4_obeys_122
                  · have h := e_x25
                    refine z_if_eq C0 121 dX4_obeys_106 (by decide) (fun c20 => ?_) (fun c20 => ?_)
                    · have h := zif_t c20 h
                      refine z_iconst (v := (0 : Int32)) C0 dX4_obeys_121 (by decide) ?_
                      refine z_sub (lo1 := []) [] rfl ?_
                      obtain ⟨rfl, rfl⟩ := Prod.mk.inj (Option.some.inj h)
                      exact k_J21
                    · have h := zif_f c20 h
                      refine z_aload_n C0 dX4_obeys_109 rfl 0 rfl ?_
                      refine z_iconst (v := (1 : Int32)) C0 dX4_obeys_110 (by decide) ?_
                      obtain ⟨r22, μ23, e_r22, h⟩ := zbd2_of h
                      refine z_callV (As := [.int (1 : Int32)]) (rest := []) C0 rfl kc_X4_moors km_RX4_161 (r_X4_moors (l := l) (g := g) a0 (1 : Int32) μ hT0 e_r22) hT0.1 hT0.2.2.1 rfl (by decide) rfl (Nat.le_of_ble_eq_true rfl) (Nat.le_of_ble_eq_true rfl) (Nat.le_of_ble_eq_true rfl) (Nat.le_of_ble_eq_true rfl) (Nat.le_refl _) rfl rfl dX4_obeys_111 ?_
                      refine z_if_eq C0 121 dX4_obeys_114 (by decide) (fun c24 => ?_) (fun c24 => ?_)
                      · have h := zif_t c24 h
                        refine z_iconst (v := (0 : Int32)) C0 dX4_obeys_121 (by decide) ?_
                        refine z_sub (lo1 := []) [] rfl ?_
                        obtain ⟨rfl, rfl⟩ := Prod.mk.inj (Option.some.inj h)
                        exact k_J21
                      · have h := zif_f c24 h
                        refine z_iconst (v := (1 : Int32)) C0 dX4_obeys_117 (by decide) ?_
                        refine z_goto C0 122 dX4_obeys_118 (by decide) ?_
                        refine z_sub (lo1 := []) [] rfl ?_
                        obtain ⟨rfl, rfl⟩ := Prod.mk.inj (Option.some.inj h)
                        exact k_J21
                · have h := zif_f c51 h
                  by_cases c52 : v1 = (7 : Int32)
                  · have h := zif_t c52 h
                    refine z_tabK C0 (113) 123 dX4_obeys_10 c52 (by decide) (by decide) (by decide) (by decide) ?_
                    refine z_aload_n C0 dX4_obeys_123 rfl 0 rfl ?_
                    refine z_iconst (v := (0 : Int32)) C0 dX4_obeys_124 (by decide) ?_
                    obtain ⟨r28, μ29, e_r28, h⟩ := zbd2_of h
                    refine z_callV (As := [.int (0 : Int32)]) (rest := []) C0 rfl kc_X4_moors km_RX4_161 (r_X4_moors (l := l) (g := g) a0 (0 : Int32) μ hT0 e_r28) hT0.1 hT0.2.2.1 rfl (by decide) rfl (Nat.le_of_ble_eq_true rfl) (Nat.le_of_ble_eq_true rfl) (Nat.le_of_ble_eq_true rfl) (Nat.le_of_ble_eq_true rfl) (Nat.le_refl _) rfl rfl dX4_obeys_125 ?_
                    obtain ⟨g30, h⟩ := zg_of h
                    have h := Option.some.inj h
                    obtain ⟨rfl, rfl⟩ := Prod.mk.inj h
                    exact z_zret C0 rfl g30 dX4_obeys_128
                  · have h := zif_f c52 h
                    by_cases c53 : v1 = (8 : Int32)
                    · have h := zif_t c53 h
                      refine z_tabK C0 (119) 129 dX4_obeys_10 c53 (by decide) (by decide) (by decide) (by decide) ?_
                      refine z_aload_n C0 dX4_obeys_129 rfl 0 rfl ?_
                      refine z_iload_n C0 dX4_obeys_130 rfl 2 rfl ?_
                      obtain ⟨r31, μ32, e_r31, h⟩ := zbd2_of h
                      refine z_callV (As := [.int v2]) (rest := []) C0 rfl kc_X4_isBailed km_RX4_164 (r_X4_isBailed (l := l) (g := g) a0 v2 μ hT0 e_r31) hT0.1 hT0.2.2.1 rfl (by decide) rfl (Nat.le_of_ble_eq_true rfl) (Nat.le_of_ble_eq_true rfl) (Nat.le_of_ble_eq_true rfl) (Nat.le_of_ble_eq_true rfl) (Nat.le_refl _) rfl rfl dX4_obeys_131 ?_
                      obtain ⟨g33, h⟩ := zg_of h
                      have h := Option.some.inj h
                      obtain ⟨rfl, rfl⟩ := Prod.mk.inj h
                      exact z_zret C0 rfl g33 dX4_obeys_134
                    · have h := zif_f c53 h
                      refine z_join μ 135 [(0, .ref (zb g + a0)), (1, .int v1), (2, .int v2), (3, .int v3)] [] ?_ (fun k54 => ?_)
                      · refine z_iconst (v := (0 : Int32)) C0 dX4_obeys_135 (by decide) ?_
                        refine z_istore (lo1 := [(4, .int (0 : Int32)), (0, .ref (zb g + a0)), (1, .int v1), (2, .int v2), (3, .int v3)]) C0 dX4_obeys_136 (by decide) rfl ?_
                        refine z_sub (lo1 := [(0, .ref (zb g + a0)), (2, .int v2), (4, .int (0 : Int32))]) [1, 3, 0] rfl ?_
                        obtain ⟨μ41, e_μ41, h⟩ := zbd_of h
                        refine r_X4_obeys_L138 C0 a0 v2 hT0 zFU (0 : Int32) μ μ41 e_μ41 ?_
                        refine z_iconst (v := (1 : Int32)) C0 dX4_obeys_161 (by decide) ?_
                        have h := Option.some.inj h
                        obtain ⟨rfl, rfl⟩ := Prod.mk.inj h
                        exact z_zret C0 rfl (by decide) dX4_obeys_162
                      · have c45 : v1.toInt ≠ 0 := fun q => c45 (Int32.toInt_inj.mp (q.trans (by decide)))
                        have c46 : v1.toInt ≠ 1 := fun q => c46 (Int32.toInt_inj.mp (q.trans (by decide)))
                        have c47 : v1.toInt ≠ 2 := fun q => c47 (Int32.toInt_inj.mp (q.trans (by decide)))
                        have c48 : v1.toInt ≠ 3 := fun q => c48 (Int32.toInt_inj.mp (q.trans (by decide)))
                        have c49 : v1.toInt ≠ 4 := fun q => c49 (Int32.toInt_inj.mp (q.trans (by decide)))
                        have c50 : v1.toInt ≠ 5 := fun q => c50 (Int32.toInt_inj.mp (q.trans (by decide)))
                        have c51 : v1.toInt ≠ 6 := fun q => c51 (Int32.toInt_inj.mp (q.trans (by decide)))
                        have c52 : v1.toInt ≠ 7 := fun q => c52 (Int32.toInt_inj.mp (q.trans (by decide)))
                        have c53 : v1.toInt ≠ 8 := fun q => c53 (Int32.toInt_inj.mp (q.trans (by decide)))
                        exact z_tabOut C0 135 dX4_obeys_10 (by omega) (by decide) k54
  · have h := zif_f c1 h
    refine z_iconst (v := (0 : Int32)) C0 dX4_obeys_7 (by decide) ?_
    have h := Option.some.inj h
    obtain ⟨rfl, rfl⟩ := Prod.mk.inj h
    exact z_zret C0 rfl (by decide) dX4_obeys_8
def f_X4_floatOn (a0 : Nat) (μ : zM) : Option (zM) :=
  zbd (f_X4_driftAlong a0 (0 : Int32) μ) fun r1 =>
  zbd (f_X4_driftAlong a0 (1 : Int32) μ) fun r2 =>
  zbd (f_X4_move a0 r1 r2 μ) fun μ3 =>
  some μ3
set_option maxHeartbeats 4000000 in
set_option maxRecDepth 100000 in
theorem r_X4_floatOn {l : Launch} {g : zL} (a0 : Nat) (μ : zM) (hT0 : zT zNN zσ1 a0 4) {μr : zM} (h : f_X4_floatOn a0 μ = some μr) : zMet l g yX4_floatOn cX4_floatOn 1 none 3 0 0 zNN zNN zσ1 zσ1 [.ref (zb g + a0)] μ none μr := by
  refine zMet.of (by decide +kernel) (Nat.le_of_ble_eq_true rfl) ?_
  intro p e s m args below meth c C0
  refine z_loc (lo1 := [(0, .ref (zb g + a0))]) rfl ?_
  unfold f_X4_floatOn at h
  refine z_aload_n C0 dX4_floatOn_0 rfl 0 rfl ?_
  refine z_aload_n C0 dX4_floatOn_1 rfl 0 rfl ?_
  refine z_iconst (v := (0 : Int32)) C0 dX4_floatOn_2 (by decide) ?_
  obtain ⟨r1, e_r1, h⟩ := zbd_of h
  refine z_callV (As := [.int (0 : Int32)]) (rest := [.ref (zb g + a0)]) C0 rfl kc_X4_driftAlong km_RX4_134 (r_X4_driftAlong (l := l) (g := g) a0 (0 : Int32) μ hT0 e_r1) hT0.1 hT0.2.2.1 rfl (by decide) rfl (Nat.le_of_ble_eq_true rfl) (Nat.le_of_ble_eq_true rfl) (Nat.le_of_ble_eq_true rfl) (Nat.le_of_ble_eq_true rfl) (Nat.le_refl _) rfl rfl dX4_floatOn_3 ?_
  refine z_aload_n C0 dX4_floatOn_6 rfl 0 rfl ?_
  refine z_iconst (v := (1 : Int32)) C0 dX4_floatOn_7 (by decide) ?_
  obtain ⟨r2, e_r2, h⟩ := zbd_of h
  refine z_callV (As := [.int (1 : Int32)]) (rest := [.int r1, .ref (zb g + a0)]) C0 rfl kc_X4_driftAlong km_RX4_134 (r_X4_driftAlong (l := l) (g := g) a0 (1 : Int32) μ hT0 e_r2) hT0.1 hT0.2.2.1 rfl (by decide) rfl (Nat.le_of_ble_eq_true rfl) (Nat.le_of_ble_eq_true rfl) (Nat.le_of_ble_eq_true rfl) (Nat.le_of_ble_eq_true rfl) (Nat.le_refl _) rfl rfl dX4_floatOn_8 ?_
  obtain ⟨μ3, e_μ3, h⟩ := zbd_of h
  refine z_callV (As := [.int r1, .int r2]) (rest := []) C0 rfl kc_X4_move km_RX4_137 (r_X4_move (l := l) (g := g) a0 r1 r2 μ hT0 e_μ3) hT0.1 hT0.2.2.1 rfl (by decide) rfl (Nat.le_of_ble_eq_true rfl) (Nat.le_of_ble_eq_true rfl) (Nat.le_of_ble_eq_true rfl) (Nat.le_of_ble_eq_true rfl) (Nat.le_refl _) rfl rfl dX4_floatOn_11 ?_
  have h := Option.some.inj h
  obtain rfl := h
  exact z_vret C0 rfl dX4_floatOn_14
def f_X4_hoursTillAground_L7 (a0 : Nat) (v1 : Int32) (x1 : Int32) : Nat → Int32 → zM → Option ((Int32 × zM) ⊕ (zM))
  | 0, _, _ => none
  | n + 1, y3, μ4 =>
    if v1 < y3 then
      some (.inr μ4)
    else
      zbd (f_X4_passHour a0 μ4) fun μ6 =>
      if (μ6 a0 5) ≤ x1 then
        zl (y3 + (1 : Int32)) fun x8 =>
        f_X4_hoursTillAground_L7 a0 v1 x1 n x8 μ6
      else
        some (.inl (y3, μ6))
def f_X4_hoursTillAground (a0 : Nat) (v1 : Int32) (μ : zM) : Option (Int32 × zM) :=
  zl (μ a0 5) fun x1 =>
  zbd (f_X4_hoursTillAground_L7 a0 v1 x1 zFU (1 : Int32) μ) fun q10 => zsum q10 (fun t => some t) fun μ9 =>
  some ((-1 : Int32), μ9)
set_option maxHeartbeats 4000000 in
set_option maxRecDepth 100000 in
theorem r_X4_hoursTillAground_L7 {l : Launch} {g : zL} {p : Program} {e : Env} {s : State} {m : MethodId} {args : Array Value} {below : List Frame} {meth : Method} {c : Code} {rv : Int32} {μr : zM} (C0 : zC p s m args meth c g cX4_hoursTillAground yX4_hoursTillAground 4 (some (.int))) (a0 : Nat) (v1 : Int32) (x1 : Int32) (hU2 : zT zNN zσ1 a0 4) : ∀ (n : Nat) (y3 : Int32) (μ4 : zM) (q : (Int32 × zM) ⊕ (zM)), f_X4_hoursTillAground_L7 a0 v1 x1 n y3 μ4 = some q → (∀ t, q = Sum.inl t → t = (rv, μr)) → (∀ o, q = Sum.inr o → Z p l e (zrm 4 0 0) s m args below meth c g (MQ below (zQ g zNN zσ1 (some (.int rv)) μr) args s 0 0 (zA g)) 4 zNN 0 0 zσ1 ((fun o => o) o) 32 ((fun o => []) o) []) → Z p l e (zrm 4 0 0) s m args below meth c g (MQ below (zQ g zNN zσ1 (some (.int rv)) μr) args s 0 0 (zA g)) 4 zNN 0 0 zσ1 μ4 7 [(0, .ref (zb g + a0)), (1, .int v1), (2, .int x1), (3, .int y3)] [] := by
  intro n
  induction n with
  | zero =>
    intro y3 μ4 q h kr kx
    rw [f_X4_hoursTillAground_L7] at h
    cases h
  | succ n ih =>
    intro y3 μ4 q h kr kx
    rw [f_X4_hoursTillAground_L7] at h
    refine z_iload_n C0 dX4_hoursTillAground_7 rfl 3 rfl ?_
    refine z_iload_n C0 dX4_hoursTillAground_8 rfl 1 rfl ?_
    refine z_icmp_gt C0 32 dX4_hoursTillAground_9 (by decide) (fun c5 => ?_) (fun c5 => ?_)
    · have h := zif_t c5 h
      refine z_sub (lo1 := []) [] rfl ?_
      exact kx μ4 (Option.some.inj h).symm
    · have h := zif_f c5 h
      refine z_aload_n C0 dX4_hoursTillAground_12 rfl 0 rfl ?_
      obtain ⟨μ6, e_μ6, h⟩ := zbd_of h
      refine z_callV (As := []) (rest := []) C0 rfl kc_X4_passHour km_RX4_167 (r_X4_passHour (l := l) (g := g) a0 μ4 hU2 e_μ6) hU2.1 hU2.2.2.1 rfl (by decide) rfl (Nat.le_of_ble_eq_true rfl) (Nat.le_of_ble_eq_true rfl) (Nat.le_of_ble_eq_true rfl) (Nat.le_of_ble_eq_true rfl) (Nat.le_refl _) rfl rfl dX4_hoursTillAground_13 ?_
      refine z_aload_n C0 dX4_hoursTillAground_16 rfl 0 rfl ?_
      refine z_geti C0 hU2.1 hU2.2.2.1 kf_4_29 zr_4_5 dX4_hoursTillAground_17 ?_
      refine z_iload_n C0 dX4_hoursTillAground_20 rfl 2 rfl ?_
      refine z_icmp_le C0 26 dX4_hoursTillAground_21 (by decide) (fun c7 => ?_) (fun c7 => ?_)
      · have h := zif_t c7 h
        obtain ⟨x8, e_x8, h⟩ := zl_of h
        refine z_iinc (lo1 := [(3, .int x8), (0, .ref (zb g + a0)), (1, .int v1), (2, .int x1)]) C0 dX4_hoursTillAground_26 3 rfl (by decide) e_x8.symm (by decide) rfl ?_
        refine z_goto C0 7 dX4_hoursTillAground_29 (by decide) ?_
        refine z_sub (lo1 := [(0, .ref (zb g + a0)), (1, .int v1), (2, .int x1), (3, .int x8)]) [1, 2, 3, 0] rfl ?_
        exact ih _ _ _ h kr kx
      · have h := zif_f c7 h
        refine z_iload_n C0 dX4_hoursTillAground_24 rfl 3 rfl ?_
        have h := kr _ (Option.some.inj h).symm
        obtain ⟨rfl, rfl⟩ := Prod.mk.inj h
        exact z_iret C0 rfl dX4_hoursTillAground_25
set_option maxHeartbeats 4000000 in
set_option maxRecDepth 100000 in
theorem r_X4_hoursTillAground {l : Launch} {g : zL} (a0 : Nat) (v1 : Int32) (μ : zM) (hT0 : zT zNN zσ1 a0 4) {rv : Int32} {μr : zM} (h : f_X4_hoursTillAground a0 v1 μ = some (rv, μr)) : zMet l g yX4_hoursTillAground cX4_hoursTillAground 4 (some (.int)) 4 0 0 zNN zNN zσ1 zσ1 [.ref (zb g + a0), .int v1] μ (some (.int rv)) μr := by
  refine zMet.of (by decide +kernel) (Nat.le_of_ble_eq_true rfl) ?_
  intro p e s m args below meth c C0
  refine z_loc (lo1 := [(0, .ref (zb g + a0)), (1, .int v1)]) rfl ?_
  unfold f_X4_hoursTillAground at h
  refine z_aload_n C0 dX4_hoursTillAground_0 rfl 0 rfl ?_
  refine z_geti C0 hT0.1 hT0.2.2.1 kf_4_29 zr_4_5 dX4_hoursTillAground_1 ?_
  obtain ⟨x1, e_x1, h⟩ := zl_of h
  refine z_nm e_x1 ?_
  refine z_istore_n (lo1 := [(2, .int x1), (0, .ref (zb g + a0)), (1, .int v1)]) C0 dX4_hoursTillAground_4 rfl (by decide) rfl ?_
  refine z_iconst (v := (1 : Int32)) C0 dX4_hoursTillAground_5 (by decide) ?_
  refine z_istore_n (lo1 := [(3, .int (1 : Int32)), (2, .int x1), (0, .ref (zb g + a0)), (1, .int v1)]) C0 dX4_hoursTillAground_6 rfl (by decide) rfl ?_
  refine z_sub (lo1 := [(0, .ref (zb g + a0)), (1, .int v1), (2, .int x1), (3, .int (1 : Int32))]) [2, 3, 1, 0] rfl ?_
  obtain ⟨q10, e_q10, h⟩ := zbd_of h
  refine r_X4_hoursTillAground_L7 C0 a0 v1 x1 hT0 zFU (1 : Int32) μ q10 e_q10 ?_ ?_
  · intro t ht
    have h := zsum_l h _ ht
    exact Option.some.inj h
  · intro μ9 hq
    have h := zsum_r h _ hq
    refine z_iconst (v := (-1 : Int32)) C0 dX4_hoursTillAground_32 (by decide) ?_
    have h := Option.some.inj h
    obtain ⟨rfl, rfl⟩ := Prod.mk.inj h
    exact z_iret C0 rfl dX4_hoursTillAground_33
def f_X4_hoursTillSunk_L2 (a0 : Nat) (v1 : Int32) : Nat → Int32 → zM → Option ((Int32 × zM) ⊕ (zM))
  | 0, _, _ => none
  | n + 1, y2, μ3 =>
    if v1 < y2 then
      some (.inr μ3)
    else
      if (μ3 a0 7) = 0 then
        zbd (f_X4_passHour a0 μ3) fun μ7 =>
        zl (y2 + (1 : Int32)) fun x8 =>
        f_X4_hoursTillSunk_L2 a0 v1 n x8 μ7
      else
        some (.inl (y2, μ3))
def f_X4_hoursTillSunk (a0 : Nat) (v1 : Int32) (μ : zM) : Option (Int32 × zM) :=
  zbd (f_X4_hoursTillSunk_L2 a0 v1 zFU (0 : Int32) μ) fun q10 => zsum q10 (fun t => some t) fun μ9 =>
  some ((-1 : Int32), μ9)
set_option maxHeartbeats 4000000 in
set_option maxRecDepth 100000 in
theorem r_X4_hoursTillSunk_L2 {l : Launch} {g : zL} {p : Program} {e : Env} {s : State} {m : MethodId} {args : Array Value} {below : List Frame} {meth : Method} {c : Code} {rv : Int32} {μr : zM} (C0 : zC p s m args meth c g cX4_hoursTillSunk yX4_hoursTillSunk 3 (some (.int))) (a0 : Nat) (v1 : Int32) (hU1 : zT zNN zσ1 a0 4) : ∀ (n : Nat) (y2 : Int32) (μ3 : zM) (q : (Int32 × zM) ⊕ (zM)), f_X4_hoursTillSunk_L2 a0 v1 n y2 μ3 = some q → (∀ t, q = Sum.inl t → t = (rv, μr)) → (∀ o, q = Sum.inr o → Z p l e (zrm 4 0 0) s m args below meth c g (MQ below (zQ g zNN zσ1 (some (.int rv)) μr) args s 0 0 (zA g)) 3 zNN 0 0 zσ1 ((fun o => o) o) 26 ((fun o => []) o) []) → Z p l e (zrm 4 0 0) s m args below meth c g (MQ below (zQ g zNN zσ1 (some (.int rv)) μr) args s 0 0 (zA g)) 3 zNN 0 0 zσ1 μ3 2 [(0, .ref (zb g + a0)), (1, .int v1), (2, .int y2)] [] := by
  intro n
  induction n with
  | zero =>
    intro y2 μ3 q h kr kx
    rw [f_X4_hoursTillSunk_L2] at h
    cases h
  | succ n ih =>
    intro y2 μ3 q h kr kx
    rw [f_X4_hoursTillSunk_L2] at h
    refine z_iload_n C0 dX4_hoursTillSunk_2 rfl 2 rfl ?_
    refine z_iload_n C0 dX4_hoursTillSunk_3 rfl 1 rfl ?_
    refine z_icmp_gt C0 26 dX4_hoursTillSunk_4 (by decide) (fun c4 => ?_) (fun c4 => ?_)
    · have h := zif_t c4 h
      refine z_sub (lo1 := []) [] rfl ?_
      exact kx μ3 (Option.some.inj h).symm
    · have h := zif_f c4 h
      refine z_aload_n C0 dX4_hoursTillSunk_7 rfl 0 rfl ?_
      refine z_geti C0 hU1.1 hU1.2.2.1 kf_4_32 zr_4_7 dX4_hoursTillSunk_8 ?_
      refine z_if_eq C0 16 dX4_hoursTillSunk_11 (by decide) (fun c6 => ?_) (fun c6 => ?_)
      · have h := zif_t c6 h
        refine z_aload_n C0 dX4_hoursTillSunk_16 rfl 0 rfl ?_
        obtain ⟨μ7, e_μ7, h⟩ := zbd_of h
        refine z_callV (As := []) (rest := []) C0 rfl kc_X4_passHour km_RX4_167 (r_X4_passHour (l := l) (g := g) a0 μ3 hU1 e_μ7) hU1.1 hU1.2.2.1 rfl (by decide) rfl (Nat.le_of_ble_eq_true rfl) (Nat.le_of_ble_eq_true rfl) (Nat.le_of_ble_eq_true rfl) (Nat.le_of_ble_eq_true rfl) (Nat.le_refl _) rfl rfl dX4_hoursTillSunk_17 ?_
        obtain ⟨x8, e_x8, h⟩ := zl_of h
        refine z_iinc (lo1 := [(2, .int x8), (0, .ref (zb g + a0)), (1, .int v1)]) C0 dX4_hoursTillSunk_20 2 rfl (by decide) e_x8.symm (by decide) rfl ?_
        refine z_goto C0 2 dX4_hoursTillSunk_23 (by decide) ?_
        refine z_sub (lo1 := [(0, .ref (zb g + a0)), (1, .int v1), (2, .int x8)]) [1, 2, 0] rfl ?_
        exact ih _ _ _ h kr kx
      · have h := zif_f c6 h
        refine z_iload_n C0 dX4_hoursTillSunk_14 rfl 2 rfl ?_
        have h := kr _ (Option.some.inj h).symm
        obtain ⟨rfl, rfl⟩ := Prod.mk.inj h
        exact z_iret C0 rfl dX4_hoursTillSunk_15
set_option maxHeartbeats 4000000 in
set_option maxRecDepth 100000 in
theorem r_X4_hoursTillSunk {l : Launch} {g : zL} (a0 : Nat) (v1 : Int32) (μ : zM) (hT0 : zT zNN zσ1 a0 4) {rv : Int32} {μr : zM} (h : f_X4_hoursTillSunk a0 v1 μ = some (rv, μr)) : zMet l g yX4_hoursTillSunk cX4_hoursTillSunk 3 (some (.int)) 4 0 0 zNN zNN zσ1 zσ1 [.ref (zb g + a0), .int v1] μ (some (.int rv)) μr := by
  refine zMet.of (by decide +kernel) (Nat.le_of_ble_eq_true rfl) ?_
  intro p e s m args below meth c C0
  refine z_loc (lo1 := [(0, .ref (zb g + a0)), (1, .int v1)]) rfl ?_
  unfold f_X4_hoursTillSunk at h
  refine z_iconst (v := (0 : Int32)) C0 dX4_hoursTillSunk_0 (by decide) ?_
  refine z_istore_n (lo1 := [(2, .int (0 : Int32)), (0, .ref (zb g + a0)), (1, .int v1)]) C0 dX4_hoursTillSunk_1 rfl (by decide) rfl ?_
  refine z_sub (lo1 := [(0, .ref (zb g + a0)), (1, .int v1), (2, .int (0 : Int32))]) [1, 2, 0] rfl ?_
  obtain ⟨q10, e_q10, h⟩ := zbd_of h
  refine r_X4_hoursTillSunk_L2 C0 a0 v1 hT0 zFU (0 : Int32) μ q10 e_q10 ?_ ?_
  · intro t ht
    have h := zsum_l h _ ht
    exact Option.some.inj h
  · intro μ9 hq
    have h := zsum_r h _ hq
    refine z_iconst (v := (-1 : Int32)) C0 dX4_hoursTillSunk_26 (by decide) ?_
    have h := Option.some.inj h
    obtain ⟨rfl, rfl⟩ := Prod.mk.inj h
    exact z_iret C0 rfl dX4_hoursTillSunk_27
def f_X4_forceToTurn_L21 (a0 : Nat) (v1 : Int32) (x1 : Int32) (x4 : Int32) (μ7 : zM) : Nat → Int32 → Option ((Int32) ⊕ (Unit))
  | 0, _ => none
  | n + 1, y6 =>
    if (9 : Int32) < y6 then
      some (.inr ())
    else
      zbd (f_X4_blown a0 v1 y6 x1 μ7) fun r13 =>
      if ¬ (f_J6_signum_0f7a4 (x4 + r13)) = (f_X4_signOf v1) then
        zl (y6 + (1 : Int32)) fun x15 =>
        f_X4_forceToTurn_L21 a0 v1 x1 x4 μ7 n x15
      else
        some (.inl y6)
def f_X4_forceToTurn (a0 : Nat) (v1 : Int32) (μ : zM) : Option (Int32) :=
  zl (f_X4_axisOf v1) fun x1 =>
  zg (zgk (μ a0 0) 1) <|
  zbd (f_X4_listAlong a0 x1 μ) fun r3 =>
  zl (f_X1_lean ((μ a0 0).toNatClampNeg) r3 μ) fun x4 =>
  zbd (f_X4_forceToTurn_L21 a0 v1 x1 x4 μ zFU (1 : Int32)) fun q16 => zsum q16 (fun t => some t) fun _ =>
  some (-1 : Int32)
set_option maxHeartbeats 4000000 in
set_option maxRecDepth 100000 in
theorem r_X4_forceToTurn_L21 {l : Launch} {g : zL} {p : Program} {e : Env} {s : State} {m : MethodId} {args : Array Value} {below : List Frame} {meth : Method} {c : Code} {rv : Int32} (C0 : zC p s m args meth c g cX4_forceToTurn yX4_forceToTurn 5 (some (.int))) (a0 : Nat) (v1 : Int32) (x1 : Int32) (x4 : Int32) (μ7 : zM) (hU5 : zT zNN zσ1 a0 4) : ∀ (n : Nat) (y6 : Int32) (q : (Int32) ⊕ (Unit)), f_X4_forceToTurn_L21 a0 v1 x1 x4 μ7 n y6 = some q → (∀ t, q = Sum.inl t → t = rv) → (∀ o, q = Sum.inr o → Z p l e (zrm 2 0 0) s m args below meth c g (MQ below (zQ g zNN zσ1 (some (.int rv)) μ7) args s 0 0 (zA g)) 5 zNN 0 0 zσ1 ((fun _ => μ7) o) 57 ((fun o => []) o) []) → Z p l e (zrm 2 0 0) s m args below meth c g (MQ below (zQ g zNN zσ1 (some (.int rv)) μ7) args s 0 0 (zA g)) 5 zNN 0 0 zσ1 μ7 21 [(0, .ref (zb g + a0)), (1, .int v1), (2, .int x1), (3, .int x4), (4, .int y6)] [] := by
  intro n
  induction n with
  | zero =>
    intro y6 q h kr kx
    rw [f_X4_forceToTurn_L21] at h
    cases h
  | succ n ih =>
    intro y6 q h kr kx
    rw [f_X4_forceToTurn_L21] at h
    refine z_iload C0 dX4_forceToTurn_21 4 rfl ?_
    refine z_bipush (v := (9 : Int32)) C0 dX4_forceToTurn_23 (by decide) ?_
    refine z_icmp_gt C0 57 dX4_forceToTurn_25 (by decide) (fun c8 => ?_) (fun c8 => ?_)
    · have h := zif_t c8 h
      refine z_sub (lo1 := []) [] rfl ?_
      exact kx () (Option.some.inj h).symm
    · have h := zif_f c8 h
      refine z_iload_n C0 dX4_forceToTurn_28 rfl 3 rfl ?_
      refine z_aload_n C0 dX4_forceToTurn_29 rfl 0 rfl ?_
      refine z_iload_n C0 dX4_forceToTurn_30 rfl 1 rfl ?_
      refine z_iload C0 dX4_forceToTurn_31 4 rfl ?_
      refine z_iload_n C0 dX4_forceToTurn_33 rfl 2 rfl ?_
      obtain ⟨r13, e_r13, h⟩ := zbd_of h
      refine z_callV (As := [.int v1, .int y6, .int x1]) (rest := [.int x4]) C0 rfl kc_X4_blown km_RX4_121 (r_X4_blown (l := l) (g := g) a0 v1 y6 x1 μ7 hU5 e_r13) hU5.1 hU5.2.2.1 rfl (by decide) rfl (Nat.le_of_ble_eq_true rfl) (Nat.le_of_ble_eq_true rfl) (Nat.le_of_ble_eq_true rfl) (Nat.le_of_ble_eq_true rfl) (Nat.le_refl _) rfl rfl dX4_forceToTurn_34 ?_
      refine z_iadd C0 dX4_forceToTurn_37 ?_
      refine z_callS (As := [.int (x4 + r13)]) (rest := []) C0 rfl kc_J6_signum_0f7a4 km_RX4_125 (r_J6_signum_0f7a4 (l := l) (g := g) (μ := μ7) (x4 + r13) rfl) rfl (Nat.le_of_ble_eq_true rfl) (Nat.le_of_ble_eq_true rfl) (Nat.le_of_ble_eq_true rfl) (Nat.le_of_ble_eq_true rfl) (Nat.le_refl _) rfl rfl dX4_forceToTurn_38 ?_
      refine z_iload_n C0 dX4_forceToTurn_41 rfl 1 rfl ?_
      refine z_callS (As := [.int v1]) (rest := [.int (f_J6_signum_0f7a4 (x4 + r13))]) C0 rfl kc_X4_signOf km_RX4_112 (r_X4_signOf (l := l) (g := g) (μ := μ7) v1 rfl) rfl (Nat.le_of_ble_eq_true rfl) (Nat.le_of_ble_eq_true rfl) (Nat.le_of_ble_eq_true rfl) (Nat.le_of_ble_eq_true rfl) (Nat.le_refl _) rfl rfl dX4_forceToTurn_42 ?_
      refine z_icmp_ne C0 51 dX4_forceToTurn_45 (by decide) (fun c14 => ?_) (fun c14 => ?_)
      · have h := zif_t c14 h
        obtain ⟨x15, e_x15, h⟩ := zl_of h
        refine z_iinc (lo1 := [(4, .int x15), (0, .ref (zb g + a0)), (1, .int v1), (2, .int x1), (3, .int x4)]) C0 dX4_forceToTurn_51 4 rfl (by decide) e_x15.symm (by decide) rfl ?_
        refine z_goto C0 21 dX4_forceToTurn_54 (by decide) ?_
        refine z_sub (lo1 := [(0, .ref (zb g + a0)), (1, .int v1), (2, .int x1), (3, .int x4), (4, .int x15)]) [1, 2, 3, 4, 0] rfl ?_
        exact ih _ _ h kr kx
      · have h := zif_f (fun q => q c14) h
        refine z_iload C0 dX4_forceToTurn_48 4 rfl ?_
        have h := kr _ (Option.some.inj h).symm
        obtain rfl := h
        exact z_iret C0 rfl dX4_forceToTurn_50
set_option maxHeartbeats 4000000 in
set_option maxRecDepth 100000 in
theorem r_X4_forceToTurn {l : Launch} {g : zL} (a0 : Nat) (v1 : Int32) (μ : zM) (hT0 : zT zNN zσ1 a0 4) {rv : Int32} (h : f_X4_forceToTurn a0 v1 μ = some rv) : zMet l g yX4_forceToTurn cX4_forceToTurn 5 (some (.int)) 2 0 0 zNN zNN zσ1 zσ1 [.ref (zb g + a0), .int v1] μ (some (.int rv)) μ := by
  refine zMet.of (by decide +kernel) (Nat.le_of_ble_eq_true rfl) ?_
  intro p e s m args below meth c C0
  refine z_loc (lo1 := [(0, .ref (zb g + a0)), (1, .int v1)]) rfl ?_
  unfold f_X4_forceToTurn at h
  refine z_iload_n C0 dX4_forceToTurn_0 rfl 1 rfl ?_
  refine z_callS (As := [.int v1]) (rest := []) C0 rfl kc_X4_axisOf km_RX4_106 (r_X4_axisOf (l := l) (g := g) (μ := μ) v1 rfl) rfl (Nat.le_of_ble_eq_true rfl) (Nat.le_of_ble_eq_true rfl) (Nat.le_of_ble_eq_true rfl) (Nat.le_of_ble_eq_true rfl) (Nat.le_refl _) rfl rfl dX4_forceToTurn_1 ?_
  obtain ⟨x1, e_x1, h⟩ := zl_of h
  refine z_nm e_x1 ?_
  refine z_istore_n (lo1 := [(2, .int x1), (0, .ref (zb g + a0)), (1, .int v1)]) C0 dX4_forceToTurn_4 rfl (by decide) rfl ?_
  refine z_aload_n C0 dX4_forceToTurn_5 rfl 1 rfl ?_
  obtain ⟨g2, h⟩ := zg_of h
  refine z_getd C0 hT0.1 hT0.2.2.1 kf_4_18 zr_4_0 (zgk_T g2 (by decide)).1 dX4_forceToTurn_6 ?_
  refine z_aload_n C0 dX4_forceToTurn_9 rfl 1 rfl ?_
  refine z_iload_n C0 dX4_forceToTurn_10 rfl 0 rfl ?_
  obtain ⟨r3, e_r3, h⟩ := zbd_of h
  refine z_callV (As := [.int x1]) (rest := [.ref (zb g + ((μ a0 0).toNatClampNeg))]) C0 rfl kc_X4_listAlong km_RX4_115 (r_X4_listAlong (l := l) (g := g) a0 x1 μ hT0 e_r3) hT0.1 hT0.2.2.1 rfl (by decide) rfl (Nat.le_of_ble_eq_true rfl) (Nat.le_of_ble_eq_true rfl) (Nat.le_of_ble_eq_true rfl) (Nat.le_of_ble_eq_true rfl) (Nat.le_refl _) rfl rfl dX4_forceToTurn_11 ?_
  refine z_callV (As := [.int r3]) (rest := []) C0 rfl kc_X1_lean km_RX4_118 (r_X1_lean (l := l) (g := g) ((μ a0 0).toNatClampNeg) r3 μ (zgk_T g2 (by decide)).2 rfl) (zgk_T g2 (by decide)).2.1 (zgk_T g2 (by decide)).2.2.2.1 rfl (by decide) rfl (Nat.le_of_ble_eq_true rfl) (Nat.le_of_ble_eq_true rfl) (Nat.le_of_ble_eq_true rfl) (Nat.le_of_ble_eq_true rfl) (Nat.le_refl _) rfl rfl dX4_forceToTurn_14 ?_
  obtain ⟨x4, e_x4, h⟩ := zl_of h
  refine z_nm e_x4 ?_
  refine z_istore_n (lo1 := [(3, .int x4), (2, .int x1), (0, .ref (zb g + a0)), (1, .int v1)]) C0 dX4_forceToTurn_17 rfl (by decide) rfl ?_
  refine z_iconst (v := (1 : Int32)) C0 dX4_forceToTurn_18 (by decide) ?_
  refine z_istore (lo1 := [(4, .int (1 : Int32)), (3, .int x4), (2, .int x1), (0, .ref (zb g + a0)), (1, .int v1)]) C0 dX4_forceToTurn_19 (by decide) rfl ?_
  refine z_sub (lo1 := [(0, .ref (zb g + a0)), (1, .int v1), (2, .int x1), (3, .int x4), (4, .int (1 : Int32))]) [3, 4, 2, 1, 0] rfl ?_
  obtain ⟨q16, e_q16, h⟩ := zbd_of h
  refine r_X4_forceToTurn_L21 C0 a0 v1 x1 x4 μ hT0 zFU (1 : Int32) q16 e_q16 ?_ ?_
  · intro t ht
    have h := zsum_l h _ ht
    exact Option.some.inj h
  · intro u_ hq
    have h := zsum_r h _ hq
    refine z_iconst (v := (-1 : Int32)) C0 dX4_forceToTurn_57 (by decide) ?_
    have h := Option.some.inj h
    obtain rfl := h
    exact z_iret C0 rfl dX4_forceToTurn_58
def f_X4_isBy (a0 : Nat) (a1 : Nat) (v2 : Int32) (μ : zM) : Option (Int32) :=
  zg (zgk (μ a0 0) 1) <|
  zg (zgk (μ a1 0) 1) <|
  zl (zmax (((μ a1 2) - (μ a0 2)) - (f_X1_lines ((μ a0 0).toNatClampNeg) (0 : Int32) μ)) (((μ a0 2) - (μ a1 2)) - (f_X1_lines ((μ a1 0).toNatClampNeg) (0 : Int32) μ))) fun x3 =>
  zl (zmax (((μ a1 3) - (μ a0 3)) - (f_X1_lines ((μ a0 0).toNatClampNeg) (1 : Int32) μ)) (((μ a0 3) - (μ a1 3)) - (f_X1_lines ((μ a1 0).toNatClampNeg) (1 : Int32) μ))) fun x4 =>
  zl (if ((0 ≤ x3) ∧ ((¬ (v2 = 0)) ∧ ((¬ (0 < x3)) ∧ ((¬ (0 < x4)) ∧ (¬ (0 ≤ (x3 + x4))))))) ∨ ((¬ (0 ≤ x3)) ∧ ((x4 < 0) ∨ ((¬ (v2 = 0)) ∧ ((¬ (0 < x3)) ∧ ((¬ (0 < x4)) ∧ (¬ (0 ≤ (x3 + x4)))))))) then
      (1 : Int32)
    else
      (0 : Int32)) fun x16 =>
  some x16
set_option maxHeartbeats 4000000 in
set_option maxRecDepth 100000 in
theorem r_X4_isBy {l : Launch} {g : zL} (a0 : Nat) (a1 : Nat) (v2 : Int32) (μ : zM) (hT0 : zT zNN zσ1 a0 4) (hT1 : zT zNN zσ1 a1 4) {rv : Int32} (h : f_X4_isBy a0 a1 v2 μ = some rv) : zMet l g yX4_isBy cX4_isBy 5 (some (.boolean)) 1 0 0 zNN zNN zσ1 zσ1 [.ref (zb g + a0), .ref (zb g + a1), .int v2] μ (some (.int rv)) μ := by
  refine zMet.of (by decide +kernel) (Nat.le_of_ble_eq_true rfl) ?_
  intro p e s m args below meth c C0
  refine z_loc (lo1 := [(0, .ref (zb g + a0)), (1, .ref (zb g + a1)), (2, .int v2)]) rfl ?_
  unfold f_X4_isBy at h
  refine z_aload_n C0 dX4_isBy_0 rfl 1 rfl ?_
  refine z_geti C0 hT1.1 hT1.2.2.1 kf_4_64 zr_4_2 dX4_isBy_1 ?_
  refine z_aload_n C0 dX4_isBy_4 rfl 0 rfl ?_
  refine z_geti C0 hT0.1 hT0.2.2.1 kf_4_64 zr_4_2 dX4_isBy_5 ?_
  refine z_isub C0 dX4_isBy_8 ?_
  refine z_aload_n C0 dX4_isBy_9 rfl 0 rfl ?_
  obtain ⟨g1, h⟩ := zg_of h
  refine z_getd C0 hT0.1 hT0.2.2.1 kf_4_18 zr_4_0 (zgk_T g1 (by decide)).1 dX4_isBy_10 ?_
  refine z_iconst (v := (0 : Int32)) C0 dX4_isBy_13 (by decide) ?_
  refine z_callV (As := [.int (0 : Int32)]) (rest := [.int ((μ a1 2) - (μ a0 2))]) C0 rfl kc_X1_lines km_RX4_93 (r_X1_lines (l := l) (g := g) ((μ a0 0).toNatClampNeg) (0 : Int32) μ (zgk_T g1 (by decide)).2 rfl) (zgk_T g1 (by decide)).2.1 (zgk_T g1 (by decide)).2.2.2.1 rfl (by decide) rfl (Nat.le_of_ble_eq_true rfl) (Nat.le_of_ble_eq_true rfl) (Nat.le_of_ble_eq_true rfl) (Nat.le_of_ble_eq_true rfl) (Nat.le_refl _) rfl rfl dX4_isBy_14 ?_
  refine z_isub C0 dX4_isBy_17 ?_
  refine z_aload_n C0 dX4_isBy_18 rfl 0 rfl ?_
  refine z_geti C0 hT0.1 hT0.2.2.1 kf_4_64 zr_4_2 dX4_isBy_19 ?_
  refine z_aload_n C0 dX4_isBy_22 rfl 1 rfl ?_
  refine z_geti C0 hT1.1 hT1.2.2.1 kf_4_64 zr_4_2 dX4_isBy_23 ?_
  refine z_isub C0 dX4_isBy_26 ?_
  refine z_aload_n C0 dX4_isBy_27 rfl 1 rfl ?_
  obtain ⟨g2, h⟩ := zg_of h
  refine z_getd C0 hT1.1 hT1.2.2.1 kf_4_18 zr_4_0 (zgk_T g2 (by decide)).1 dX4_isBy_28 ?_
  refine z_iconst (v := (0 : Int32)) C0 dX4_isBy_31 (by decide) ?_
  refine z_callV (As := [.int (0 : Int32)]) (rest := [.int ((μ a0 2) - (μ a1 2)), .int (((μ a1 2) - (μ a0 2)) - (f_X1_lines ((μ a0 0).toNatClampNeg) (0 : Int32) μ))]) C0 rfl kc_X1_lines km_RX4_93 (r_X1_lines (l := l) (g := g) ((μ a1 0).toNatClampNeg) (0 : Int32) μ (zgk_T g2 (by decide)).2 rfl) (zgk_T g2 (by decide)).2.1 (zgk_T g2 (by decide)).2.2.2.1 rfl (by decide) rfl (Nat.le_of_ble_eq_true rfl) (Nat.le_of_ble_eq_true rfl) (Nat.le_of_ble_eq_true rfl) (Nat.le_of_ble_eq_true rfl) (Nat.le_refl _) rfl rfl dX4_isBy_32 ?_
  refine z_isub C0 dX4_isBy_35 ?_
  refine z_mmax C0 rfl kM_RX4_187 kM_max (Nat.le_of_ble_eq_true rfl) (Nat.zero_le _) (Nat.zero_le _) dX4_isBy_36 ?_
  obtain ⟨x3, e_x3, h⟩ := zl_of h
  refine z_nm e_x3 ?_
  refine z_istore_n (lo1 := [(3, .int x3), (0, .ref (zb g + a0)), (1, .ref (zb g + a1)), (2, .int v2)]) C0 dX4_isBy_39 rfl (by decide) rfl ?_
  refine z_aload_n C0 dX4_isBy_40 rfl 2 rfl ?_
  refine z_geti C0 hT1.1 hT1.2.2.1 kf_4_67 zr_4_3 dX4_isBy_41 ?_
  refine z_aload_n C0 dX4_isBy_44 rfl 1 rfl ?_
  refine z_geti C0 hT0.1 hT0.2.2.1 kf_4_67 zr_4_3 dX4_isBy_45 ?_
  refine z_isub C0 dX4_isBy_48 ?_
  refine z_aload_n C0 dX4_isBy_49 rfl 1 rfl ?_
  refine z_getd C0 hT0.1 hT0.2.2.1 kf_4_18 zr_4_0 (zgk_T g1 (by decide)).1 dX4_isBy_50 ?_
  refine z_iconst (v := (1 : Int32)) C0 dX4_isBy_53 (by decide) ?_
  refine z_callV (As := [.int (1 : Int32)]) (rest := [.int ((μ a1 3) - (μ a0 3))]) C0 rfl kc_X1_lines km_RX4_93 (r_X1_lines (l := l) (g := g) ((μ a0 0).toNatClampNeg) (1 : Int32) μ (zgk_T g1 (by decide)).2 rfl) (zgk_T g1 (by decide)).2.1 (zgk_T g1 (by decide)).2.2.2.1 rfl (by decide) rfl (Nat.le_of_ble_eq_true rfl) (Nat.le_of_ble_eq_true rfl) (Nat.le_of_ble_eq_true rfl) (Nat.le_of_ble_eq_true rfl) (Nat.le_refl _) rfl rfl dX4_isBy_54 ?_
  refine z_isub C0 dX4_isBy_57 ?_
  refine z_aload_n C0 dX4_isBy_58 rfl 1 rfl ?_
  refine z_geti C0 hT0.1 hT0.2.2.1 kf_4_67 zr_4_3 dX4_isBy_59 ?_
  refine z_aload_n C0 dX4_isBy_62 rfl 2 rfl ?_
  refine z_geti C0 hT1.1 hT1.2.2.1 kf_4_67 zr_4_3 dX4_isBy_63 ?_
  refine z_isub C0 dX4_isBy_66 ?_
  refine z_aload_n C0 dX4_isBy_67 rfl 2 rfl ?_
  refine z_getd C0 hT1.1 hT1.2.2.1 kf_4_18 zr_4_0 (zgk_T g2 (by decide)).1 dX4_isBy_68 ?_
  refine z_iconst (v := (1 : Int32)) C0 dX4_isBy_71 (by decide) ?_
  refine z_callV (As := [.int (1 : Int32)]) (rest := [.int ((μ a0 3) - (μ a1 3)), .int (((μ a1 3) - (μ a0 3)) - (f_X1_lines ((μ a0 0).toNatClampNeg) (1 : Int32) μ))]) C0 rfl kc_X1_lines km_RX4_93 (r_X1_lines (l := l) (g := g) ((μ a1 0).toNatClampNeg) (1 : Int32) μ (zgk_T g2 (by decide)).2 rfl) (zgk_T g2 (by decide)).2.1 (zgk_T g2 (by decide)).2.2.2.1 rfl (by decide) rfl (Nat.le_of_ble_eq_true rfl) (Nat.le_of_ble_eq_true rfl) (Nat.le_of_ble_eq_true rfl) (Nat.le_of_ble_eq_true rfl) (Nat.le_refl _) rfl rfl dX4_isBy_72 ?_
  refine z_isub C0 dX4_isBy_75 ?_
  refine z_mmax C0 rfl kM_RX4_187 kM_max (Nat.le_of_ble_eq_true rfl) (Nat.zero_le _) (Nat.zero_le _) dX4_isBy_76 ?_
  obtain ⟨x4, e_x4, h⟩ := zl_of h
  refine z_nm e_x4 ?_
  refine z_istore (lo1 := [(4, .int x4), (3, .int x3), (0, .ref (zb g + a0)), (1, .ref (zb g + a1)), (2, .int v2)]) C0 dX4_isBy_79 (by decide) rfl ?_
  refine z_iload_n C0 dX4_isBy_81 rfl 1 rfl ?_
  obtain ⟨x16, e_x16, h⟩ := zl_of h
  refine z_join μ 115 [] [.int x16] ?_ (fun k_J15 => ?_)
  · have h := Option.some.inj h
    obtain rfl := h
    exact z_zret C0 rfl (by rw [e_x16]; repeat' split <;> rfl) dX4_isBy_115
  · have h := e_x16.symm
    by_cases hc17 : ((0 ≤ x3) ∧ ((¬ (v2 = 0)) ∧ ((¬ (0 < x3)) ∧ ((¬ (0 < x4)) ∧ (¬ (0 ≤ (x3 + x4))))))) ∨ ((¬ (0 ≤ x3)) ∧ ((x4 < 0) ∨ ((¬ (v2 = 0)) ∧ ((¬ (0 < x3)) ∧ ((¬ (0 < x4)) ∧ (¬ (0 ≤ (x3 + x4))))))))
    · have h := zif_t hc17 h
      refine z_join μ 110 [(4, .int x4), (3, .int x3), (0, .ref (zb g + a0)), (1, .ref (zb g + a1)), (2, .int v2)] [] ?_ (fun k18 => ?_)
      · refine z_iconst (v := (1 : Int32)) C0 dX4_isBy_110 (by decide) ?_
        refine z_goto C0 115 dX4_isBy_111 (by decide) ?_
        refine z_sub (lo1 := []) [] rfl ?_
        obtain rfl := h
        exact k_J15
      · refine z_if_ge C0 90 dX4_isBy_82 (by decide) (fun c5 => ?_) (fun c5 => ?_)
        · refine z_iload_n C0 dX4_isBy_90 rfl 4 rfl ?_
          refine z_if_eq C0 114 dX4_isBy_91 (by decide) (fun c7 => ?_) (fun c7 => ?_)
          · exact absurd hc17 (fun q => q.elim (fun z => (fun q => q.1 c7) z.2) (fun z => z.1 c5))
          · refine z_iload_n C0 dX4_isBy_94 rfl 1 rfl ?_
            refine z_if_gt C0 114 dX4_isBy_95 (by decide) (fun c9 => ?_) (fun c9 => ?_)
            · exact absurd hc17 (fun q => q.elim (fun z => (fun q => (fun q => q.1 c9) q.2) z.2) (fun z => z.1 c5))
            · refine z_iload C0 dX4_isBy_98 0 rfl ?_
              refine z_if_gt C0 114 dX4_isBy_100 (by decide) (fun c11 => ?_) (fun c11 => ?_)
              · exact absurd hc17 (fun q => q.elim (fun z => (fun q => (fun q => (fun q => q.1 c11) q.2) q.2) z.2) (fun z => z.1 c5))
              · refine z_iload_n C0 dX4_isBy_103 rfl 1 rfl ?_
                refine z_iload C0 dX4_isBy_104 0 rfl ?_
                refine z_iadd C0 dX4_isBy_106 ?_
                refine z_if_ge C0 114 dX4_isBy_107 (by decide) (fun c13 => ?_) (fun c13 => ?_)
                · exact absurd hc17 (fun q => q.elim (fun z => (fun q => (fun q => (fun q => (fun q => q c13) q.2) q.2) q.2) z.2) (fun z => z.1 c5))
                · exact k18
        · refine z_iload C0 dX4_isBy_85 0 rfl ?_
          refine z_if_lt C0 110 dX4_isBy_87 (by decide) (fun c6 => ?_) (fun c6 => ?_)
          · exact k18
          · refine z_iload_n C0 dX4_isBy_90 rfl 4 rfl ?_
            refine z_if_eq C0 114 dX4_isBy_91 (by decide) (fun c8 => ?_) (fun c8 => ?_)
            · exact absurd hc17 (fun q => q.elim (fun z => c5 z.1) (fun z => (fun q => q.elim c6 (fun q => q.1 c8)) z.2))
            · refine z_iload_n C0 dX4_isBy_94 rfl 1 rfl ?_
              refine z_if_gt C0 114 dX4_isBy_95 (by decide) (fun c10 => ?_) (fun c10 => ?_)
              · exact absurd hc17 (fun q => q.elim (fun z => c5 z.1) (fun z => (fun q => q.elim c6 (fun q => (fun q => q.1 c10) q.2)) z.2))
              · refine z_iload C0 dX4_isBy_98 0 rfl ?_
                refine z_if_gt C0 114 dX4_isBy_100 (by decide) (fun c12 => ?_) (fun c12 => ?_)
                · exact absurd hc17 (fun q => q.elim (fun z => c5 z.1) (fun z => (fun q => q.elim c6 (fun q => (fun q => (fun q => q.1 c12) q.2) q.2)) z.2))
                · refine z_iload_n C0 dX4_isBy_103 rfl 1 rfl ?_
                  refine z_iload C0 dX4_isBy_104 0 rfl ?_
                  refine z_iadd C0 dX4_isBy_106 ?_
                  refine z_if_ge C0 114 dX4_isBy_107 (by decide) (fun c14 => ?_) (fun c14 => ?_)
                  · exact absurd hc17 (fun q => q.elim (fun z => c5 z.1) (fun z => (fun q => q.elim c6 (fun q => (fun q => (fun q => (fun q => q c14) q.2) q.2) q.2)) z.2))
                  · exact k18
    · have h := zif_f hc17 h
      refine z_join μ 114 [(4, .int x4), (3, .int x3), (0, .ref (zb g + a0)), (1, .ref (zb g + a1)), (2, .int v2)] [] ?_ (fun k19 => ?_)
      · refine z_iconst (v := (0 : Int32)) C0 dX4_isBy_114 (by decide) ?_
        refine z_sub (lo1 := []) [] rfl ?_
        obtain rfl := h
        exact k_J15
      · refine z_if_ge C0 90 dX4_isBy_82 (by decide) (fun c5 => ?_) (fun c5 => ?_)
        · refine z_iload_n C0 dX4_isBy_90 rfl 4 rfl ?_
          refine z_if_eq C0 114 dX4_isBy_91 (by decide) (fun c7 => ?_) (fun c7 => ?_)
          · exact k19
          · refine z_iload_n C0 dX4_isBy_94 rfl 1 rfl ?_
            refine z_if_gt C0 114 dX4_isBy_95 (by decide) (fun c9 => ?_) (fun c9 => ?_)
            · exact k19
            · refine z_iload C0 dX4_isBy_98 0 rfl ?_
              refine z_if_gt C0 114 dX4_isBy_100 (by decide) (fun c11 => ?_) (fun c11 => ?_)
              · exact k19
              · refine z_iload_n C0 dX4_isBy_103 rfl 1 rfl ?_
                refine z_iload C0 dX4_isBy_104 0 rfl ?_
                refine z_iadd C0 dX4_isBy_106 ?_
                refine z_if_ge C0 114 dX4_isBy_107 (by decide) (fun c13 => ?_) (fun c13 => ?_)
                · exact k19
                · exact absurd (Or.inl ⟨c5, ⟨c7, ⟨c9, ⟨c11, c13⟩⟩⟩⟩) hc17
        · refine z_iload C0 dX4_isBy_85 0 rfl ?_
          refine z_if_lt C0 110 dX4_isBy_87 (by decide) (fun c6 => ?_) (fun c6 => ?_)
          · exact absurd (Or.inr ⟨c5, (Or.inl c6)⟩) hc17
          · refine z_iload_n C0 dX4_isBy_90 rfl 4 rfl ?_
            refine z_if_eq C0 114 dX4_isBy_91 (by decide) (fun c8 => ?_) (fun c8 => ?_)
            · exact k19
            · refine z_iload_n C0 dX4_isBy_94 rfl 1 rfl ?_
              refine z_if_gt C0 114 dX4_isBy_95 (by decide) (fun c10 => ?_) (fun c10 => ?_)
              · exact k19
              · refine z_iload C0 dX4_isBy_98 0 rfl ?_
                refine z_if_gt C0 114 dX4_isBy_100 (by decide) (fun c12 => ?_) (fun c12 => ?_)
                · exact k19
                · refine z_iload_n C0 dX4_isBy_103 rfl 1 rfl ?_
                  refine z_iload C0 dX4_isBy_104 0 rfl ?_
                  refine z_iadd C0 dX4_isBy_106 ?_
                  refine z_if_ge C0 114 dX4_isBy_107 (by decide) (fun c14 => ?_) (fun c14 => ?_)
                  · exact k19
                  · exact absurd (Or.inr ⟨c5, (Or.inr ⟨c8, ⟨c10, ⟨c12, c14⟩⟩⟩)⟩) hc17
def f_X4_debtBy_L4 (a0 : Nat) (a1 : Nat) (μ5 : zM) : Nat → Int32 → Int32 → Option (Int32)
  | 0, _, _ => none
  | n + 1, y3, y4 =>
    if (μ5 a1 2) ≤ y4 then
      some y3
    else
      zbd (f_X6_number a1 y4 (1 : Int32) μ5) fun r7 =>
      zbd (f_X6_number a1 y4 (2 : Int32) μ5) fun r8 =>
      zbd (f_X6_number a1 y4 (0 : Int32) μ5) fun r9 =>
      zbd (if r9 = (0 : Int32) then
          zg (zgk (μ5 a0 0) 1) <|
          zbd (f_X1_graveWeight ((μ5 a0 0).toNatClampNeg) μ5) fun r12 =>
          zl (y3 + (r7 * r12)) fun x13 =>
          some x13
        else
        if r9 = (1 : Int32) then
          zbd (f_X4_listAlong a0 (0 : Int32) μ5) fun r14 =>
          zbd (f_X4_listAlong a0 (1 : Int32) μ5) fun r15 =>
          zl (if ((zabs r14) + (zabs r15)) ≤ r7 then
              (0 : Int32)
            else
              r8) fun x18 =>
          zl (y3 + x18) fun x19 =>
          some x19
        else
        if r9 = (2 : Int32) then
          zl (if ¬ (((μ5 a0 6) >>> (r7 &&& 31)) &&& (1 : Int32)) = (1 : Int32) then
              (0 : Int32)
            else
              r8) fun x22 =>
          zl (y3 + x22) fun x23 =>
          some x23
        else
        if r9 = (3 : Int32) then
          zbd (f_X4_allWater a0 μ5) fun r24 =>
          zl (y3 + (r7 * r24)) fun x25 =>
          some x25
        else
        if r9 = (4 : Int32) then
          zl (if ¬ (((μ5 a0 2) + (μ5 a0 3)) % (2 : Int32)) = (1 : Int32) then
              (0 : Int32)
            else
              r7) fun x28 =>
          zl (y3 + x28) fun x29 =>
          some x29
        else
          zl (zmin y3 r7) fun x30 =>
          some x30) fun x31 =>
      zl (y4 + (1 : Int32)) fun x32 =>
      f_X4_debtBy_L4 a0 a1 μ5 n x31 x32
def f_X4_debtBy (a0 : Nat) (a1 : Nat) (μ : zM) : Option (Int32) :=
  zbd (f_X4_debtBy_L4 a0 a1 μ zFU (0 : Int32) (0 : Int32)) fun x33 =>
  some x33
set_option maxHeartbeats 4000000 in
set_option maxRecDepth 100000 in
theorem r_X4_debtBy_L4 {l : Launch} {g : zL} {κ : zK} {p : Program} {e : Env} {s : State} {m : MethodId} {args : Array Value} {below : List Frame} {meth : Method} {c : Code} {Q : State → Prop} (C0 : zC p s m args meth c g cX4_debtBy yX4_debtBy 6 (some (.int))) (hSp : zSK g κ) (a0 : Nat) (a1 : Nat) (μ5 : zM) (hU1 : zT zNN zσ1 a0 4) (hU2 : zT zNN zσ1 a1 6) : ∀ (n : Nat) (y3 : Int32) (y4 : Int32) (x33 : Int32), f_X4_debtBy_L4 a0 a1 μ5 n y3 y4 = some x33 → Z p l e (zrm 2 0 0) s m args below meth c g Q 6 zNN 0 0 zσ1 μ5 195 [(2, .int x33)] [] → Z p l e (zrm 2 0 0) s m args below meth c g Q 6 zNN 0 0 zσ1 μ5 4 [(0, .ref (zb g + a0)), (1, .ref (zb g + a1)), (2, .int y3), (3, .int y4)] [] := by
  have hF := hSp.at C0
  intro n
  induction n with
  | zero =>
    intro y3 y4 x33 h kx
    rw [f_X4_debtBy_L4] at h
    cases h
  | succ n ih =>
    intro y3 y4 x33 h kx
    rw [f_X4_debtBy_L4] at h
    refine z_iload_n C0 dX4_debtBy_4 rfl 3 rfl ?_
    refine z_aload_n C0 dX4_debtBy_5 rfl 1 rfl ?_
    refine z_geti C0 hU2.1 hU2.2.2.1 kf_4_143 zr_6_2 dX4_debtBy_6 ?_
    refine z_icmp_ge C0 195 dX4_debtBy_9 (by decide) (fun c6 => ?_) (fun c6 => ?_)
    · have h := zif_t c6 h
      refine z_sub (lo1 := [(2, .int y3)]) [2] rfl ?_
      obtain rfl := (Option.some.inj h)
      exact kx
    · have h := zif_f c6 h
      refine z_aload_n C0 dX4_debtBy_12 rfl 1 rfl ?_
      refine z_iload_n C0 dX4_debtBy_13 rfl 3 rfl ?_
      refine z_iconst (v := (1 : Int32)) C0 dX4_debtBy_14 (by decide) ?_
      obtain ⟨r7, e_r7, h⟩ := zbd_of h
      refine z_callV (As := [.int y4, .int (1 : Int32)]) (rest := []) C0 rfl kc_X6_number km_RX4_99 (r_X6_number (l := l) (g := g) a1 y4 (1 : Int32) μ5 hU2 e_r7) hU2.1 hU2.2.2.1 rfl (by decide) rfl (Nat.le_of_ble_eq_true rfl) (Nat.le_of_ble_eq_true rfl) (Nat.le_of_ble_eq_true rfl) (Nat.le_of_ble_eq_true rfl) (Nat.le_refl _) rfl rfl dX4_debtBy_15 ?_
      refine z_istore (lo1 := [(4, .int r7), (0, .ref (zb g + a0)), (1, .ref (zb g + a1)), (2, .int y3), (3, .int y4)]) C0 dX4_debtBy_18 (by decide) rfl ?_
      refine z_aload_n C0 dX4_debtBy_20 rfl 2 rfl ?_
      refine z_iload_n C0 dX4_debtBy_21 rfl 4 rfl ?_
      refine z_iconst (v := (2 : Int32)) C0 dX4_debtBy_22 (by decide) ?_
      obtain ⟨r8, e_r8, h⟩ := zbd_of h
      refine z_callV (As := [.int y4, .int (2 : Int32)]) (rest := []) C0 rfl kc_X6_number km_RX4_99 (r_X6_number (l := l) (g := g) a1 y4 (2 : Int32) μ5 hU2 e_r8) hU2.1 hU2.2.2.1 rfl (by decide) rfl (Nat.le_of_ble_eq_true rfl) (Nat.le_of_ble_eq_true rfl) (Nat.le_of_ble_eq_true rfl) (Nat.le_of_ble_eq_true rfl) (Nat.le_refl _) rfl rfl dX4_debtBy_23 ?_
      refine z_istore (lo1 := [(5, .int r8), (4, .int r7), (0, .ref (zb g + a0)), (1, .ref (zb g + a1)), (2, .int y3), (3, .int y4)]) C0 dX4_debtBy_26 (by decide) rfl ?_
      refine z_aload_n C0 dX4_debtBy_28 rfl 3 rfl ?_
      refine z_iload_n C0 dX4_debtBy_29 rfl 5 rfl ?_
      refine z_iconst (v := (0 : Int32)) C0 dX4_debtBy_30 (by decide) ?_
      obtain ⟨r9, e_r9, h⟩ := zbd_of h
      refine z_callV (As := [.int y4, .int (0 : Int32)]) (rest := []) C0 rfl kc_X6_number km_RX4_99 (r_X6_number (l := l) (g := g) a1 y4 (0 : Int32) μ5 hU2 e_r9) hU2.1 hU2.2.2.1 rfl (by decide) rfl (Nat.le_of_ble_eq_true rfl) (Nat.le_of_ble_eq_true rfl) (Nat.le_of_ble_eq_true rfl) (Nat.le_of_ble_eq_true rfl) (Nat.le_refl _) rfl rfl dX4_debtBy_31 ?_
      obtain ⟨x31, e_x31, h⟩ := zbd_of h
      refine z_join μ5 189 [(0, .ref (zb g + a0)), (1, .ref (zb g + a1)), (2, .int x31), (3, .int y4)] [] ?_ (fun k_J10 => ?_)
      · obtain ⟨x32, e_x32, h⟩ := zl_of h
        refine z_iinc (lo1 := [(3, .int x32), (0, .ref (zb g + a0)), (1, .ref (zb g + a1)), (2, .int x31)]) C0 dX4_debtBy_189 3 rfl (by decide) e_x32.symm (by decide) rfl ?_
        refine z_goto C0 4 dX4_debtBy_192 (by decide) ?_
        refine z_sub (lo1 := [(0, .ref (zb g + a0)), (1, .ref (zb g + a1)), (2, .int x31), (3, .int x32)]) [1, 2, 3, 0] rfl ?_
        exact ih _ _ _ h kx
      · have h := e_x31
        by_cases c34 : r9 = (0 : Int32)
        · have h := zif_t c34 h
          refine z_tabK C0 (34) 68 dX4_debtBy_34 c34 (by decide) (by decide) (by decide) (by decide) ?_
          refine z_iload_n C0 dX4_debtBy_68 rfl 4 rfl ?_
          refine z_iload C0 dX4_debtBy_69 1 rfl ?_
          refine z_aload_n C0 dX4_debtBy_71 rfl 2 rfl ?_
          obtain ⟨g11, h⟩ := zg_of h
          refine z_getd C0 hU1.1 hU1.2.2.1 kf_4_18 zr_4_0 (zgk_T g11 (by decide)).1 dX4_debtBy_72 ?_
          obtain ⟨r12, e_r12, h⟩ := zbd_of h
          refine z_callV (As := []) (rest := [.int r7, .int y3]) C0 rfl kc_X1_graveWeight km_RX4_173 (r_X1_graveWeight (l := l) (g := g) ((μ5 a0 0).toNatClampNeg) μ5 (zgk_T g11 (by decide)).2 e_r12) (zgk_T g11 (by decide)).2.1 (zgk_T g11 (by decide)).2.2.2.1 rfl (by decide) rfl (Nat.le_of_ble_eq_true rfl) (Nat.le_of_ble_eq_true rfl) (Nat.le_of_ble_eq_true rfl) (Nat.le_of_ble_eq_true rfl) (Nat.le_refl _) rfl rfl dX4_debtBy_75 ?_
          refine z_imul C0 dX4_debtBy_78 ?_
          refine z_iadd C0 dX4_debtBy_79 ?_
          obtain ⟨x13, e_x13, h⟩ := zl_of h
          refine z_nm e_x13 ?_
          refine z_istore_n (lo1 := [(2, .int x13), (5, .int r8), (4, .int r7), (0, .ref (zb g + a0)), (1, .ref (zb g + a1)), (3, .int y4)]) C0 dX4_debtBy_80 rfl (by decide) rfl ?_
          refine z_goto C0 189 dX4_debtBy_81 (by decide) ?_
          refine z_sub (lo1 := [(0, .ref (zb g + a0)), (1, .ref (zb g + a1)), (2, .int x13), (3, .int y4)]) [3, 4, 0, 5] rfl ?_
          obtain rfl := (Option.some.inj h)
          exact k_J10
        · have h := zif_f c34 h
          by_cases c35 : r9 = (1 : Int32)
          · have h := zif_t c35 h
            refine z_tabK C0 (50) 84 dX4_debtBy_34 c35 (by decide) (by decide) (by decide) (by decide) ?_
            refine z_iload_n C0 dX4_debtBy_84 rfl 4 rfl ?_
            refine z_aload_n C0 dX4_debtBy_85 rfl 2 rfl ?_
            refine z_iconst (v := (0 : Int32)) C0 dX4_debtBy_86 (by decide) ?_
            obtain ⟨r14, e_r14, h⟩ := zbd_of h
            refine z_callV (As := [.int (0 : Int32)]) (rest := [.int y3]) C0 rfl kc_X4_listAlong km_RX4_115 (r_X4_listAlong (l := l) (g := g) a0 (0 : Int32) μ5 hU1 e_r14) hU1.1 hU1.2.2.1 rfl (by decide) rfl (Nat.le_of_ble_eq_true rfl) (Nat.le_of_ble_eq_true rfl) (Nat.le_of_ble_eq_true rfl) (Nat.le_of_ble_eq_true rfl) (Nat.le_refl _) rfl rfl dX4_debtBy_87 ?_
            refine z_mabs C0 rfl kM_RX4_176 kM_abs (Nat.le_of_ble_eq_true rfl) (Nat.zero_le _) (Nat.zero_le _) dX4_debtBy_90 ?_
            refine z_aload_n C0 dX4_debtBy_93 rfl 2 rfl ?_
            refine z_iconst (v := (1 : Int32)) C0 dX4_debtBy_94 (by decide) ?_
            obtain ⟨r15, e_r15, h⟩ := zbd_of h
            refine z_callV (As := [.int (1 : Int32)]) (rest := [.int (zabs r14), .int y3]) C0 rfl kc_X4_listAlong km_RX4_115 (r_X4_listAlong (l := l) (g := g) a0 (1 : Int32) μ5 hU1 e_r15) hU1.1 hU1.2.2.1 rfl (by decide) rfl (Nat.le_of_ble_eq_true rfl) (Nat.le_of_ble_eq_true rfl) (Nat.le_of_ble_eq_true rfl) (Nat.le_of_ble_eq_true rfl) (Nat.le_refl _) rfl rfl dX4_debtBy_95 ?_
            refine z_mabs C0 rfl kM_RX4_176 kM_abs (Nat.le_of_ble_eq_true rfl) (Nat.zero_le _) (Nat.zero_le _) dX4_debtBy_98 ?_
            refine z_iadd C0 dX4_debtBy_101 ?_
            refine z_iload C0 dX4_debtBy_102 1 rfl ?_
            obtain ⟨x18, e_x18, h⟩ := zl_of h
            refine z_join μ5 113 [(0, .ref (zb g + a0)), (1, .ref (zb g + a1)), (3, .int y4)] [.int x18, .int y3] ?_ (fun k_J17 => ?_)
            · refine z_iadd C0 dX4_debtBy_113 ?_
              obtain ⟨x19, e_x19, h⟩ := zl_of h
              refine z_nm e_x19 ?_
              refine z_istore_n (lo1 := [(2, .int x19), (0, .ref (zb g + a0)), (1, .ref (zb g + a1)), (3, .int y4)]) C0 dX4_debtBy_114 rfl (by decide) rfl ?_
              refine z_goto C0 189 dX4_debtBy_115 (by decide) ?_
              refine z_sub (lo1 := [(0, .ref (zb g + a0)), (1, .ref (zb g + a1)), (2, .int x19), (3, .int y4)]) [1, 2, 0, 3] rfl ?_
              obtain rfl := (Option.some.inj h)
              exact k_J10
            · have h := e_x18.symm
              refine z_icmp_le C0 112 dX4_debtBy_104 (by decide) (fun c16 => ?_) (fun c16 => ?_)
              · have h := zif_t c16 h
                refine z_iconst (v := (0 : Int32)) C0 dX4_debtBy_112 (by decide) ?_
                refine z_sub (lo1 := [(0, .ref (zb g + a0)), (1, .ref (zb g + a1)), (3, .int y4)]) [2, 3, 5] rfl ?_
                obtain rfl := h
                exact k_J17
              · have h := zif_f c16 h
                refine z_iload C0 dX4_debtBy_107 0 rfl ?_
                refine z_goto C0 113 dX4_debtBy_109 (by decide) ?_
                refine z_sub (lo1 := [(0, .ref (zb g + a0)), (1, .ref (zb g + a1)), (3, .int y4)]) [2, 3, 5] rfl ?_
                obtain rfl := h
                exact k_J17
          · have h := zif_f c35 h
            by_cases c36 : r9 = (2 : Int32)
            · have h := zif_t c36 h
              refine z_tabK C0 (84) 118 dX4_debtBy_34 c36 (by decide) (by decide) (by decide) (by decide) ?_
              refine z_iload_n C0 dX4_debtBy_118 rfl 4 rfl ?_
              refine z_aload_n C0 dX4_debtBy_119 rfl 2 rfl ?_
              refine z_geti C0 hU1.1 hU1.2.2.1 kf_4_61 zr_4_6 dX4_debtBy_120 ?_
              refine z_iload C0 dX4_debtBy_123 1 rfl ?_
              refine z_callSN (As := [.int (μ5 a0 6), .int r7]) (rest := [.int y3]) C0 rfl kc_X11_isIn (hF.2.2.2.2.2.2.2.1 _ (List.mem_of_getElem? (i := 9) rfl)) (r_X11_isIn (l := l) (g := g) (μ := μ5) (μ5 a0 6) r7 rfl) rfl (Nat.le_of_ble_eq_true rfl) (Nat.le_of_ble_eq_true rfl) (Nat.le_of_ble_eq_true rfl) (Nat.le_of_ble_eq_true rfl) rfl rfl dX4_debtBy_125 ?_
              obtain ⟨x22, e_x22, h⟩ := zl_of h
              refine z_join μ5 137 [(0, .ref (zb g + a0)), (1, .ref (zb g + a1)), (3, .int y4)] [.int x22, .int y3] ?_ (fun k_J21 => ?_)
              · refine z_iadd C0 dX4_debtBy_137 ?_
                obtain ⟨x23, e_x23, h⟩ := zl_of h
                refine z_nm e_x23 ?_
                refine z_istore_n (lo1 := [(2, .int x23), (0, .ref (zb g + a0)), (1, .ref (zb g + a1)), (3, .int y4)]) C0 dX4_debtBy_138 rfl (by decide) rfl ?_
                refine z_goto C0 189 dX4_debtBy_139 (by decide) ?_
                refine z_sub (lo1 := [(0, .ref (zb g + a0)), (1, .ref (zb g + a1)), (2, .int x23), (3, .int y4)]) [1, 2, 0, 3] rfl ?_
                obtain rfl := (Option.some.inj h)
                exact k_J10
              · have h := e_x22.symm
                refine z_if_eqI C0 136 dX4_debtBy_128 (by decide) (fun c20 => ?_) (fun c20 => ?_)
                · have h := zif_t c20 h
                  refine z_iconst (v := (0 : Int32)) C0 dX4_debtBy_136 (by decide) ?_
                  refine z_sub (lo1 := [(0, .ref (zb g + a0)), (1, .ref (zb g + a1)), (3, .int y4)]) [2, 3, 5] rfl ?_
                  obtain rfl := h
                  exact k_J21
                · have h := zif_f (fun q => q c20) h
                  refine z_iload C0 dX4_debtBy_131 0 rfl ?_
                  refine z_goto C0 137 dX4_debtBy_133 (by decide) ?_
                  refine z_sub (lo1 := [(0, .ref (zb g + a0)), (1, .ref (zb g + a1)), (3, .int y4)]) [2, 3, 5] rfl ?_
                  obtain rfl := h
                  exact k_J21
            · have h := zif_f c36 h
              by_cases c37 : r9 = (3 : Int32)
              · have h := zif_t c37 h
                refine z_tabK C0 (108) 142 dX4_debtBy_34 c37 (by decide) (by decide) (by decide) (by decide) ?_
                refine z_iload_n C0 dX4_debtBy_142 rfl 4 rfl ?_
                refine z_iload C0 dX4_debtBy_143 1 rfl ?_
                refine z_aload_n C0 dX4_debtBy_145 rfl 2 rfl ?_
                obtain ⟨r24, e_r24, h⟩ := zbd_of h
                refine z_callV (As := []) (rest := [.int r7, .int y3]) C0 rfl kc_X4_allWater km_RX4_70 (r_X4_allWater (l := l) (g := g) a0 μ5 hU1 e_r24) hU1.1 hU1.2.2.1 rfl (by decide) rfl (Nat.le_of_ble_eq_true rfl) (Nat.le_of_ble_eq_true rfl) (Nat.le_of_ble_eq_true rfl) (Nat.le_of_ble_eq_true rfl) (Nat.le_refl _) rfl rfl dX4_debtBy_146 ?_
                refine z_imul C0 dX4_debtBy_149 ?_
                refine z_iadd C0 dX4_debtBy_150 ?_
                obtain ⟨x25, e_x25, h⟩ := zl_of h
                refine z_nm e_x25 ?_
                refine z_istore_n (lo1 := [(2, .int x25), (5, .int r8), (4, .int r7), (0, .ref (zb g + a0)), (1, .ref (zb g + a1)), (3, .int y4)]) C0 dX4_debtBy_151 rfl (by decide) rfl ?_
                refine z_goto C0 189 dX4_debtBy_152 (by decide) ?_
                refine z_sub (lo1 := [(0, .ref (zb g + a0)), (1, .ref (zb g + a1)), (2, .int x25), (3, .int y4)]) [3, 4, 0, 5] rfl ?_
                obtain rfl := (Option.some.inj h)
                exact k_J10
              · have h := zif_f c37 h
                by_cases c38 : r9 = (4 : Int32)
                · have h := zif_t c38 h
                  refine z_tabK C0 (121) 155 dX4_debtBy_34 c38 (by decide) (by decide) (by decide) (by decide) ?_
                  refine z_iload_n C0 dX4_debtBy_155 rfl 4 rfl ?_
                  refine z_aload_n C0 dX4_debtBy_156 rfl 2 rfl ?_
                  refine z_geti C0 hU1.1 hU1.2.2.1 kf_4_64 zr_4_2 dX4_debtBy_157 ?_
                  refine z_aload_n C0 dX4_debtBy_160 rfl 2 rfl ?_
                  refine z_geti C0 hU1.1 hU1.2.2.1 kf_4_67 zr_4_3 dX4_debtBy_161 ?_
                  refine z_iadd C0 dX4_debtBy_164 ?_
                  refine z_iconst (v := (2 : Int32)) C0 dX4_debtBy_165 (by decide) ?_
                  refine z_irem C0 dX4_debtBy_166 (by decide) ?_
                  refine z_iconst (v := (1 : Int32)) C0 dX4_debtBy_167 (by decide) ?_
                  obtain ⟨x28, e_x28, h⟩ := zl_of h
                  refine z_join μ5 177 [(0, .ref (zb g + a0)), (1, .ref (zb g + a1)), (3, .int y4)] [.int x28, .int y3] ?_ (fun k_J27 => ?_)
                  · refine z_iadd C0 dX4_debtBy_177 ?_
                    obtain ⟨x29, e_x29, h⟩ := zl_of h
                    refine z_nm e_x29 ?_
                    refine z_istore_n (lo1 := [(2, .int x29), (0, .ref (zb g + a0)), (1, .ref (zb g + a1)), (3, .int y4)]) C0 dX4_debtBy_178 rfl (by decide) rfl ?_
                    refine z_goto C0 189 dX4_debtBy_179 (by decide) ?_
                    refine z_sub (lo1 := [(0, .ref (zb g + a0)), (1, .ref (zb g + a1)), (2, .int x29), (3, .int y4)]) [1, 2, 0, 3] rfl ?_
                    obtain rfl := (Option.some.inj h)
                    exact k_J10
                  · have h := e_x28.symm
                    refine z_icmp_ne C0 176 dX4_debtBy_168 (by decide) (fun c26 => ?_) (fun c26 => ?_)
                    · have h := zif_t c26 h
                      refine z_iconst (v := (0 : Int32)) C0 dX4_debtBy_176 (by decide) ?_
                      refine z_sub (lo1 := [(0, .ref (zb g + a0)), (1, .ref (zb g + a1)), (3, .int y4)]) [2, 3, 5] rfl ?_
                      obtain rfl := h
                      exact k_J27
                    · have h := zif_f (fun q => q c26) h
                      refine z_iload C0 dX4_debtBy_171 1 rfl ?_
                      refine z_goto C0 177 dX4_debtBy_173 (by decide) ?_
                      refine z_sub (lo1 := [(0, .ref (zb g + a0)), (1, .ref (zb g + a1)), (3, .int y4)]) [2, 3, 5] rfl ?_
                      obtain rfl := h
                      exact k_J27
                · have h := zif_f c38 h
                  refine z_join μ5 182 [(5, .int r8), (4, .int r7), (0, .ref (zb g + a0)), (1, .ref (zb g + a1)), (2, .int y3), (3, .int y4)] [] ?_ (fun k39 => ?_)
                  · refine z_iload_n C0 dX4_debtBy_182 rfl 4 rfl ?_
                    refine z_iload C0 dX4_debtBy_183 1 rfl ?_
                    refine z_mmin C0 rfl kM_RX4_184 kM_min (Nat.le_of_ble_eq_true rfl) (Nat.zero_le _) (Nat.zero_le _) dX4_debtBy_185 ?_
                    obtain ⟨x30, e_x30, h⟩ := zl_of h
                    refine z_nm e_x30 ?_
                    refine z_istore_n (lo1 := [(2, .int x30), (5, .int r8), (4, .int r7), (0, .ref (zb g + a0)), (1, .ref (zb g + a1)), (3, .int y4)]) C0 dX4_debtBy_188 rfl (by decide) rfl ?_
                    refine z_sub (lo1 := [(0, .ref (zb g + a0)), (1, .ref (zb g + a1)), (2, .int x30), (3, .int y4)]) [3, 4, 0, 5] rfl ?_
                    obtain rfl := (Option.some.inj h)
                    exact k_J10
                  · have c34 : r9.toInt ≠ 0 := fun q => c34 (Int32.toInt_inj.mp (q.trans (by decide)))
                    have c35 : r9.toInt ≠ 1 := fun q => c35 (Int32.toInt_inj.mp (q.trans (by decide)))
                    have c36 : r9.toInt ≠ 2 := fun q => c36 (Int32.toInt_inj.mp (q.trans (by decide)))
                    have c37 : r9.toInt ≠ 3 := fun q => c37 (Int32.toInt_inj.mp (q.trans (by decide)))
                    have c38 : r9.toInt ≠ 4 := fun q => c38 (Int32.toInt_inj.mp (q.trans (by decide)))
                    exact z_tabOut C0 182 dX4_debtBy_34 (by omega) (by decide) k39
set_option maxHeartbeats 4000000 in
set_option maxRecDepth 100000 in
theorem r_X4_debtBy {l : Launch} {g : zL} {κ : zK} (a0 : Nat) (a1 : Nat) (μ : zM) (hT0 : zT zNN zσ1 a0 4) (hT1 : zT zNN zσ1 a1 6) (hSp : zSK g κ) {rv : Int32} (h : f_X4_debtBy a0 a1 μ = some rv) : zMet l g yX4_debtBy cX4_debtBy 6 (some (.int)) 2 0 0 zNN zNN zσ1 zσ1 [.ref (zb g + a0), .ref (zb g + a1)] μ (some (.int rv)) μ := by
  refine zMet.of (by decide +kernel) (Nat.le_of_ble_eq_true rfl) ?_
  intro p e s m args below meth c C0
  have hF := hSp.at C0
  refine z_loc (lo1 := [(0, .ref (zb g + a0)), (1, .ref (zb g + a1))]) rfl ?_
  unfold f_X4_debtBy at h
  refine z_iconst (v := (0 : Int32)) C0 dX4_debtBy_0 (by decide) ?_
  refine z_istore_n (lo1 := [(2, .int (0 : Int32)), (0, .ref (zb g + a0)), (1, .ref (zb g + a1))]) C0 dX4_debtBy_1 rfl (by decide) rfl ?_
  refine z_iconst (v := (0 : Int32)) C0 dX4_debtBy_2 (by decide) ?_
  refine z_istore_n (lo1 := [(3, .int (0 : Int32)), (2, .int (0 : Int32)), (0, .ref (zb g + a0)), (1, .ref (zb g + a1))]) C0 dX4_debtBy_3 rfl (by decide) rfl ?_
  refine z_sub (lo1 := [(0, .ref (zb g + a0)), (1, .ref (zb g + a1)), (2, .int (0 : Int32)), (3, .int (0 : Int32))]) [2, 3, 1, 0] rfl ?_
  obtain ⟨x33, e_x33, h⟩ := zbd_of h
  refine r_X4_debtBy_L4 C0 hSp a0 a1 μ hT0 hT1 zFU (0 : Int32) (0 : Int32) x33 e_x33 ?_
  refine z_iload_n C0 dX4_debtBy_195 rfl 0 rfl ?_
  have h := Option.some.inj h
  obtain rfl := h
  exact z_iret C0 rfl dX4_debtBy_196
def f_X4_answerOfOne (a0 : Nat) (v1 : Int32) (μ : zM) : Option (Int32) :=
  if (¬ (v1 < (20 : Int32))) ∧ (¬ ((25 : Int32) ≤ v1)) then
    zg (zgk (μ a0 0) 1) <|
    zbd (if (f_X6_has (((μ a0 0).toNatClampNeg) + 8) (v1 - (20 : Int32)) μ) = 0 then
        some (-2 : Int32)
      else
        zg (zin (v1 - (20 : Int32)) 5) <|
        some (μ (a0 + 1) ((v1 - (20 : Int32)).toNatClampNeg))) fun x19 =>
    some x19
  else
    zbd (zbd (if v1 < (30 : Int32) then
          some false
        else
          zbd (f_X4_hasPlace a0 (v1 - (30 : Int32)) μ) fun r22 =>
          if r22 = 0 then
            some false
          else
            some true) fun b24 =>
      if b24 = true then
        zg (zin (v1 - (30 : Int32)) 16) <|
        some (μ (a0 + 2) ((v1 - (30 : Int32)).toNatClampNeg))
      else
        some (-2 : Int32)) fun x27 =>
    some x27
set_option maxHeartbeats 4000000 in
set_option maxRecDepth 100000 in
theorem r_X4_answerOfOne {l : Launch} {g : zL} (a0 : Nat) (v1 : Int32) (μ : zM) (hT0 : zT zNN zσ1 a0 4) {rv : Int32} (h : f_X4_answerOfOne a0 v1 μ = some rv) : zMet l g yX4_answerOfOne cX4_answerOfOne 2 (some (.int)) 2 0 0 zNN zNN zσ1 zσ1 [.ref (zb g + a0), .int v1] μ (some (.int rv)) μ := by
  refine zMet.of (by decide +kernel) (Nat.le_of_ble_eq_true rfl) ?_
  intro p e s m args below meth c C0
  refine z_loc (lo1 := [(0, .ref (zb g + a0)), (1, .int v1)]) rfl ?_
  unfold f_X4_answerOfOne at h
  refine z_iload_n C0 dX4_answerOfOne_0 rfl 1 rfl ?_
  refine z_bipush (v := (20 : Int32)) C0 dX4_answerOfOne_1 (by decide) ?_
  by_cases hc28 : (¬ (v1 < (20 : Int32))) ∧ (¬ ((25 : Int32) ≤ v1))
  · have h := zif_t hc28 h
    refine z_join μ 12 [(0, .ref (zb g + a0)), (1, .int v1)] [] ?_ (fun k29 => ?_)
    · refine z_aload_n C0 dX4_answerOfOne_12 rfl 0 rfl ?_
      obtain ⟨g15, h⟩ := zg_of h
      refine z_getd C0 hT0.1 hT0.2.2.1 kf_4_18 zr_4_0 (zgk_T g15 (by decide)).1 dX4_answerOfOne_13 ?_
      refine z_getr C0 (zgk_T g15 (by decide)).2 kf_4_77 zr_1_4 zx_1 (zs_1_4 (zgk_T g15 (by decide)).2).1 dX4_answerOfOne_16 ?_
      refine z_iload_n C0 dX4_answerOfOne_19 rfl 1 rfl ?_
      refine z_bipush (v := (20 : Int32)) C0 dX4_answerOfOne_20 (by decide) ?_
      refine z_isub C0 dX4_answerOfOne_22 ?_
      refine z_callV (As := [.int (v1 - (20 : Int32))]) (rest := []) C0 rfl kc_X6_has km_RX4_81 (r_X6_has (l := l) (g := g) (((μ a0 0).toNatClampNeg) + 8) (v1 - (20 : Int32)) μ (zs_1_4 (zgk_T g15 (by decide)).2).2 rfl) (zs_1_4 (zgk_T g15 (by decide)).2).2.1 (zs_1_4 (zgk_T g15 (by decide)).2).2.2.2.1 rfl (by decide) rfl (Nat.le_of_ble_eq_true rfl) (Nat.le_of_ble_eq_true rfl) (Nat.le_of_ble_eq_true rfl) (Nat.le_of_ble_eq_true rfl) (Nat.le_refl _) rfl rfl dX4_answerOfOne_23 ?_
      obtain ⟨x19, e_x19, h⟩ := zbd_of h
      refine z_join μ 43 [] [.int x19] ?_ (fun k_J17 => ?_)
      · have h := Option.some.inj h
        obtain rfl := h
        exact z_iret C0 rfl dX4_answerOfOne_43
      · have h := e_x19
        refine z_if_eq C0 41 dX4_answerOfOne_26 (by decide) (fun c16 => ?_) (fun c16 => ?_)
        · have h := zif_t c16 h
          refine z_bipush (v := (-2 : Int32)) C0 dX4_answerOfOne_41 (by decide) ?_
          refine z_sub (lo1 := []) [] rfl ?_
          obtain rfl := (Option.some.inj h)
          exact k_J17
        · have h := zif_f c16 h
          refine z_aload_n C0 dX4_answerOfOne_29 rfl 0 rfl ?_
          refine z_getr C0 hT0 kf_4_9 zr_4_12 zx_4 (zs_4_12 hT0).1 dX4_answerOfOne_30 ?_
          refine z_iload_n C0 dX4_answerOfOne_33 rfl 1 rfl ?_
          refine z_bipush (v := (20 : Int32)) C0 dX4_answerOfOne_34 (by decide) ?_
          refine z_isub C0 dX4_answerOfOne_36 ?_
          obtain ⟨g18, h⟩ := zg_of h
          refine z_iald C0 (zs_4_12 hT0).2 g18 rfl dX4_answerOfOne_37 ?_
          refine z_goto C0 43 dX4_answerOfOne_38 (by decide) ?_
          refine z_sub (lo1 := []) [] rfl ?_
          obtain rfl := (Option.some.inj h)
          exact k_J17
    · refine z_icmp_lt C0 44 dX4_answerOfOne_3 (by decide) (fun c1 => ?_) (fun c1 => ?_)
      · exact absurd hc28 (fun q => q.1 c1)
      · refine z_iload_n C0 dX4_answerOfOne_6 rfl 1 rfl ?_
        refine z_bipush (v := (25 : Int32)) C0 dX4_answerOfOne_7 (by decide) ?_
        refine z_icmp_ge C0 44 dX4_answerOfOne_9 (by decide) (fun c13 => ?_) (fun c13 => ?_)
        · exact absurd hc28 (fun q => (fun q => q c13) q.2)
        · exact k29
  · have h := zif_f hc28 h
    refine z_join μ 44 [(0, .ref (zb g + a0)), (1, .int v1)] [] ?_ (fun k30 => ?_)
    · refine z_iload_n C0 dX4_answerOfOne_44 rfl 1 rfl ?_
      refine z_bipush (v := (30 : Int32)) C0 dX4_answerOfOne_45 (by decide) ?_
      obtain ⟨x27, e_x27, h⟩ := zbd_of h
      refine z_join μ 75 [] [.int x27] ?_ (fun k_J25 => ?_)
      · have h := Option.some.inj h
        obtain rfl := h
        exact z_iret C0 rfl dX4_answerOfOne_75
      · have h := e_x27
        obtain ⟨b24, e_b24, h⟩ := zbd_of h
        refine z_joinb b24 μ 61 73 [(0, .ref (zb g + a0)), (1, .int v1)] [] (fun z33 => ?_) (fun z33 => ?_) (fun k31 k32 => ?_)
        · have h := zif_t z33 h
          refine z_aload_n C0 dX4_answerOfOne_61 rfl 0 rfl ?_
          refine z_getr C0 hT0 kf_4_15 zr_4_13 zx_4 (zs_4_13 hT0).1 dX4_answerOfOne_62 ?_
          refine z_iload_n C0 dX4_answerOfOne_65 rfl 1 rfl ?_
          refine z_bipush (v := (30 : Int32)) C0 dX4_answerOfOne_66 (by decide) ?_
          refine z_isub C0 dX4_answerOfOne_68 ?_
          obtain ⟨g26, h⟩ := zg_of h
          refine z_iald C0 (zs_4_13 hT0).2 g26 rfl dX4_answerOfOne_69 ?_
          refine z_goto C0 75 dX4_answerOfOne_70 (by decide) ?_
          refine z_sub (lo1 := []) [] rfl ?_
          obtain rfl := (Option.some.inj h)
          exact k_J25
        · have h := zif_f (fun q => Bool.noConfusion (z33.symm.trans q)) h
          refine z_bipush (v := (-2 : Int32)) C0 dX4_answerOfOne_73 (by decide) ?_
          refine z_sub (lo1 := []) [] rfl ?_
          obtain rfl := (Option.some.inj h)
          exact k_J25
        · have h := e_b24
          refine z_icmp_lt C0 73 dX4_answerOfOne_47 (by decide) (fun c20 => ?_) (fun c20 => ?_)
          · have h := zif_t c20 h
            exact k32 (Option.some.inj h).symm
          · have h := zif_f c20 h
            refine z_aload_n C0 dX4_answerOfOne_50 rfl 0 rfl ?_
            refine z_iload_n C0 dX4_answerOfOne_51 rfl 1 rfl ?_
            refine z_bipush (v := (30 : Int32)) C0 dX4_answerOfOne_52 (by decide) ?_
            refine z_isub C0 dX4_answerOfOne_54 ?_
            obtain ⟨r22, e_r22, h⟩ := zbd_of h
            refine z_callV (As := [.int (v1 - (30 : Int32))]) (rest := []) C0 rfl kc_X4_hasPlace km_RX4_87 (r_X4_hasPlace (l := l) (g := g) a0 (v1 - (30 : Int32)) μ hT0 e_r22) hT0.1 hT0.2.2.1 rfl (by decide) rfl (Nat.le_of_ble_eq_true rfl) (Nat.le_of_ble_eq_true rfl) (Nat.le_of_ble_eq_true rfl) (Nat.le_of_ble_eq_true rfl) (Nat.le_refl _) rfl rfl dX4_answerOfOne_55 ?_
            refine z_if_eq C0 73 dX4_answerOfOne_58 (by decide) (fun c23 => ?_) (fun c23 => ?_)
            · have h := zif_t c23 h
              exact k32 (Option.some.inj h).symm
            · have h := zif_f c23 h
              exact k31 (Option.some.inj h).symm
    · refine z_icmp_lt C0 44 dX4_answerOfOne_3 (by decide) (fun c1 => ?_) (fun c1 => ?_)
      · exact k30
      · refine z_iload_n C0 dX4_answerOfOne_6 rfl 1 rfl ?_
        refine z_bipush (v := (25 : Int32)) C0 dX4_answerOfOne_7 (by decide) ?_
        refine z_icmp_ge C0 44 dX4_answerOfOne_9 (by decide) (fun c13 => ?_) (fun c13 => ?_)
        · exact k30
        · exact absurd ⟨c1, c13⟩ hc28
def f_X4_answer (a0 : Nat) (v1 : Int32) (μ : zM) : Option (Int32) :=
  if v1 = (0 : Int32) then
    some (μ a0 2)
  else
  if v1 = (1 : Int32) then
    some (μ a0 3)
  else
  if v1 = (2 : Int32) then
    some (μ a0 4)
  else
  if v1 = (3 : Int32) then
    some (μ a0 5)
  else
  if v1 = (4 : Int32) then
    some (μ a0 6)
  else
  if v1 = (5 : Int32) then
    zbd (f_X4_allWater a0 μ) fun r1 =>
    some r1
  else
  if v1 = (6 : Int32) then
    zl (if (μ a0 7) = 0 then
        (0 : Int32)
      else
        (1 : Int32)) fun x4 =>
    some x4
  else
  if v1 = (7 : Int32) then
    zl (if (μ a0 8) = 0 then
        (0 : Int32)
      else
        (1 : Int32)) fun x7 =>
    some x7
  else
  if v1 = (8 : Int32) then
    zl (if (μ a0 9) = 0 then
        (0 : Int32)
      else
        (1 : Int32)) fun x10 =>
    some x10
  else
  if v1 = (9 : Int32) then
    some (μ a0 10)
  else
  if v1 = (10 : Int32) then
    some (μ a0 11)
  else
    zbd (f_X4_answerOfOne a0 v1 μ) fun r11 =>
    some r11
set_option maxHeartbeats 4000000 in
set_option maxRecDepth 100000 in
theorem r_X4_answer {l : Launch} {g : zL} (a0 : Nat) (v1 : Int32) (μ : zM) (hT0 : zT zNN zσ1 a0 4) {rv : Int32} (h : f_X4_answer a0 v1 μ = some rv) : zMet l g yX4_answer cX4_answer 2 (some (.int)) 3 0 0 zNN zNN zσ1 zσ1 [.ref (zb g + a0), .int v1] μ (some (.int rv)) μ := by
  refine zMet.of (by decide +kernel) (Nat.le_of_ble_eq_true rfl) ?_
  intro p e s m args below meth c C0
  refine z_loc (lo1 := [(0, .ref (zb g + a0)), (1, .int v1)]) rfl ?_
  unfold f_X4_answer at h
  refine z_iload_n C0 dX4_answer_0 rfl 1 rfl ?_
  by_cases c12 : v1 = (0 : Int32)
  · have h := zif_t c12 h
    refine z_tabK C0 (59) 60 dX4_answer_1 c12 (by decide) (by decide) (by decide) (by decide) ?_
    refine z_aload_n C0 dX4_answer_60 rfl 0 rfl ?_
    refine z_geti C0 hT0.1 hT0.2.2.1 kf_4_64 zr_4_2 dX4_answer_61 ?_
    have h := Option.some.inj h
    obtain rfl := h
    exact z_iret C0 rfl dX4_answer_64
  · have h := zif_f c12 h
    by_cases c13 : v1 = (1 : Int32)
    · have h := zif_t c13 h
      refine z_tabK C0 (64) 65 dX4_answer_1 c13 (by decide) (by decide) (by decide) (by decide) ?_
      refine z_aload_n C0 dX4_answer_65 rfl 0 rfl ?_
      refine z_geti C0 hT0.1 hT0.2.2.1 kf_4_67 zr_4_3 dX4_answer_66 ?_
      have h := Option.some.inj h
      obtain rfl := h
      exact z_iret C0 rfl dX4_answer_69
    · have h := zif_f c13 h
      by_cases c14 : v1 = (2 : Int32)
      · have h := zif_t c14 h
        refine z_tabK C0 (69) 70 dX4_answer_1 c14 (by decide) (by decide) (by decide) (by decide) ?_
        refine z_aload_n C0 dX4_answer_70 rfl 0 rfl ?_
        refine z_geti C0 hT0.1 hT0.2.2.1 kf_4_25 zr_4_4 dX4_answer_71 ?_
        have h := Option.some.inj h
        obtain rfl := h
        exact z_iret C0 rfl dX4_answer_74
      · have h := zif_f c14 h
        by_cases c15 : v1 = (3 : Int32)
        · have h := zif_t c15 h
          refine z_tabK C0 (74) 75 dX4_answer_1 c15 (by decide) (by decide) (by decide) (by decide) ?_
          refine z_aload_n C0 dX4_answer_75 rfl 0 rfl ?_
          refine z_geti C0 hT0.1 hT0.2.2.1 kf_4_29 zr_4_5 dX4_answer_76 ?_
          have h := Option.some.inj h
          obtain rfl := h
          exact z_iret C0 rfl dX4_answer_79
        · have h := zif_f c15 h
          by_cases c16 : v1 = (4 : Int32)
          · have h := zif_t c16 h
            refine z_tabK C0 (79) 80 dX4_answer_1 c16 (by decide) (by decide) (by decide) (by decide) ?_
            refine z_aload_n C0 dX4_answer_80 rfl 0 rfl ?_
            refine z_geti C0 hT0.1 hT0.2.2.1 kf_4_61 zr_4_6 dX4_answer_81 ?_
            have h := Option.some.inj h
            obtain rfl := h
            exact z_iret C0 rfl dX4_answer_84
          · have h := zif_f c16 h
            by_cases c17 : v1 = (5 : Int32)
            · have h := zif_t c17 h
              refine z_tabK C0 (84) 85 dX4_answer_1 c17 (by decide) (by decide) (by decide) (by decide) ?_
              refine z_aload_n C0 dX4_answer_85 rfl 0 rfl ?_
              obtain ⟨r1, e_r1, h⟩ := zbd_of h
              refine z_callV (As := []) (rest := []) C0 rfl kc_X4_allWater km_RX4_70 (r_X4_allWater (l := l) (g := g) a0 μ hT0 e_r1) hT0.1 hT0.2.2.1 rfl (by decide) rfl (Nat.le_of_ble_eq_true rfl) (Nat.le_of_ble_eq_true rfl) (Nat.le_of_ble_eq_true rfl) (Nat.le_of_ble_eq_true rfl) (Nat.le_refl _) rfl rfl dX4_answer_86 ?_
              have h := Option.some.inj h
              obtain rfl := h
              exact z_iret C0 rfl dX4_answer_89
            · have h := zif_f c17 h
              by_cases c18 : v1 = (6 : Int32)
              · have h := zif_t c18 h
                refine z_tabK C0 (89) 90 dX4_answer_1 c18 (by decide) (by decide) (by decide) (by decide) ?_
                refine z_aload_n C0 dX4_answer_90 rfl 0 rfl ?_
                refine z_geti C0 hT0.1 hT0.2.2.1 kf_4_32 zr_4_7 dX4_answer_91 ?_
                obtain ⟨x4, e_x4, h⟩ := zl_of h
                refine z_join μ 102 [] [.int x4] ?_ (fun k_J3 => ?_)
                · have h := Option.some.inj h
                  obtain rfl := h
                  exact z_iret C0 rfl dX4_answer_102
                · have h := e_x4.symm
                  refine z_if_eq C0 101 dX4_answer_94 (by decide) (fun c2 => ?_) (fun c2 => ?_)
                  · have h := zif_t c2 h
                    refine z_iconst (v := (0 : Int32)) C0 dX4_answer_101 (by decide) ?_
                    refine z_sub (lo1 := []) [] rfl ?_
                    obtain rfl := h
                    exact k_J3
                  · have h := zif_f c2 h
                    refine z_iconst (v := (1 : Int32)) C0 dX4_answer_97 (by decide) ?_
                    refine z_goto C0 102 dX4_answer_98 (by decide) ?_
                    refine z_sub (lo1 := []) [] rfl ?_
                    obtain rfl := h
                    exact k_J3
              · have h := zif_f c18 h
                by_cases c19 : v1 = (7 : Int32)
                · have h := zif_t c19 h
                  refine z_tabK C0 (102) 103 dX4_answer_1 c19 (by decide) (by decide) (by decide) (by decide) ?_
                  refine z_aload_n C0 dX4_answer_103 rfl 0 rfl ?_
                  refine z_geti C0 hT0.1 hT0.2.2.1 kf_4_36 zr_4_8 dX4_answer_104 ?_
                  obtain ⟨x7, e_x7, h⟩ := zl_of h
                  refine z_join μ 115 [] [.int x7] ?_ (fun k_J6 => ?_)
                  · have h := Option.some.inj h
                    obtain rfl := h
                    exact z_iret C0 rfl dX4_answer_115
                  · have h := e_x7.symm
                    refine z_if_eq C0 114 dX4_answer_107 (by decide) (fun c5 => ?_) (fun c5 => ?_)
                    · have h := zif_t c5 h
                      refine z_iconst (v := (0 : Int32)) C0 dX4_answer_114 (by decide) ?_
                      refine z_sub (lo1 := []) [] rfl ?_
                      obtain rfl := h
                      exact k_J6
                    · have h := zif_f c5 h
                      refine z_iconst (v := (1 : Int32)) C0 dX4_answer_110 (by decide) ?_
                      refine z_goto C0 115 dX4_answer_111 (by decide) ?_
                      refine z_sub (lo1 := []) [] rfl ?_
                      obtain rfl := h
                      exact k_J6
                · have h := zif_f c19 h
                  by_cases c20 : v1 = (8 : Int32)
                  · have h := zif_t c20 h
                    refine z_tabK C0 (115) 116 dX4_answer_1 c20 (by decide) (by decide) (by decide) (by decide) ?_
                    refine z_aload_n C0 dX4_answer_116 rfl 0 rfl ?_
                    refine z_geti C0 hT0.1 hT0.2.2.1 kf_4_39 zr_4_9 dX4_answer_117 ?_
                    obtain ⟨x10, e_x10, h⟩ := zl_of h
                    refine z_join μ 128 [] [.int x10] ?_ (fun k_J9 => ?_)
                    · have h := Option.some.inj h
                      obtain rfl := h
                      exact z_iret C0 rfl dX4_answer_128
                    · have h := e_x10.symm
                      refine z_if_eq C0 127 dX4_answer_120 (by decide) (fun c8 => ?_) (fun c8 => ?_)
                      · have h := zif_t c8 h
                        refine z_iconst (v := (0 : Int32)) C0 dX4_answer_127 (by decide) ?_
                        refine z_sub (lo1 := []) [] rfl ?_
                        obtain rfl := h
                        exact k_J9
                      · have h := zif_f c8 h
                        refine z_iconst (v := (1 : Int32)) C0 dX4_answer_123 (by decide) ?_
                        refine z_goto C0 128 dX4_answer_124 (by decide) ?_
                        refine z_sub (lo1 := []) [] rfl ?_
                        obtain rfl := h
                        exact k_J9
                  · have h := zif_f c20 h
                    by_cases c21 : v1 = (9 : Int32)
                    · have h := zif_t c21 h
                      refine z_tabK C0 (128) 129 dX4_answer_1 c21 (by decide) (by decide) (by decide) (by decide) ?_
                      refine z_aload_n C0 dX4_answer_129 rfl 0 rfl ?_
                      refine z_geti C0 hT0.1 hT0.2.2.1 kf_4_42 zr_4_10 dX4_answer_130 ?_
                      have h := Option.some.inj h
                      obtain rfl := h
                      exact z_iret C0 rfl dX4_answer_133
                    · have h := zif_f c21 h
                      by_cases c22 : v1 = (10 : Int32)
                      · have h := zif_t c22 h
                        refine z_tabK C0 (133) 134 dX4_answer_1 c22 (by decide) (by decide) (by decide) (by decide) ?_
                        refine z_aload_n C0 dX4_answer_134 rfl 0 rfl ?_
                        refine z_geti C0 hT0.1 hT0.2.2.1 kf_4_45 zr_4_11 dX4_answer_135 ?_
                        have h := Option.some.inj h
                        obtain rfl := h
                        exact z_iret C0 rfl dX4_answer_138
                      · have h := zif_f c22 h
                        refine z_join μ 139 [(0, .ref (zb g + a0)), (1, .int v1)] [] ?_ (fun k23 => ?_)
                        · refine z_aload_n C0 dX4_answer_139 rfl 0 rfl ?_
                          refine z_iload_n C0 dX4_answer_140 rfl 1 rfl ?_
                          obtain ⟨r11, e_r11, h⟩ := zbd_of h
                          refine z_callV (As := [.int v1]) (rest := []) C0 rfl kc_X4_answerOfOne km_RX4_73 (r_X4_answerOfOne (l := l) (g := g) a0 v1 μ hT0 e_r11) hT0.1 hT0.2.2.1 rfl (by decide) rfl (Nat.le_of_ble_eq_true rfl) (Nat.le_of_ble_eq_true rfl) (Nat.le_of_ble_eq_true rfl) (Nat.le_of_ble_eq_true rfl) (Nat.le_refl _) rfl rfl dX4_answer_141 ?_
                          have h := Option.some.inj h
                          obtain rfl := h
                          exact z_iret C0 rfl dX4_answer_144
                        · have c12 : v1.toInt ≠ 0 := fun q => c12 (Int32.toInt_inj.mp (q.trans (by decide)))
                          have c13 : v1.toInt ≠ 1 := fun q => c13 (Int32.toInt_inj.mp (q.trans (by decide)))
                          have c14 : v1.toInt ≠ 2 := fun q => c14 (Int32.toInt_inj.mp (q.trans (by decide)))
                          have c15 : v1.toInt ≠ 3 := fun q => c15 (Int32.toInt_inj.mp (q.trans (by decide)))
                          have c16 : v1.toInt ≠ 4 := fun q => c16 (Int32.toInt_inj.mp (q.trans (by decide)))
                          have c17 : v1.toInt ≠ 5 := fun q => c17 (Int32.toInt_inj.mp (q.trans (by decide)))
                          have c18 : v1.toInt ≠ 6 := fun q => c18 (Int32.toInt_inj.mp (q.trans (by decide)))
                          have c19 : v1.toInt ≠ 7 := fun q => c19 (Int32.toInt_inj.mp (q.trans (by decide)))
                          have c20 : v1.toInt ≠ 8 := fun q => c20 (Int32.toInt_inj.mp (q.trans (by decide)))
                          have c21 : v1.toInt ≠ 9 := fun q => c21 (Int32.toInt_inj.mp (q.trans (by decide)))
                          have c22 : v1.toInt ≠ 10 := fun q => c22 (Int32.toInt_inj.mp (q.trans (by decide)))
                          exact z_tabOut C0 139 dX4_answer_1 (by omega) (by decide) k23
