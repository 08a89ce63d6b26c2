def f_X2_letIn_L5 (a0 : Nat) (a1 : Nat) (v2 : Int32) (μ5 : zM) : Nat → Int32 → Int32 → Option (Int32)
  | 0, _, _ => none
  | n + 1, y3, y4 =>
    if (¬ ((μ5 a1 2) ≤ y4)) ∧ (¬ ((4 : Int32) ≤ y4)) then
      zg (zin v2 9) <|
      zg (zin y4 4) <|
      zbd (f_X6_number a1 y4 (1 : Int32) μ5) fun r10 =>
      zl (y3 + ((μ5 (a0 + 4 + 1 * v2.toNatClampNeg) (y4.toNatClampNeg)) + r10)) fun x11 =>
      zl (y4 + (1 : Int32)) fun x12 =>
      f_X2_letIn_L5 a0 a1 v2 μ5 n x11 x12
    else
      some y3
def f_X2_letIn (a0 : Nat) (a1 : Nat) (v2 : Int32) (μ : zM) : Option (Int32) :=
  zbd (f_X2_letIn_L5 a0 a1 v2 μ zFU (0 : Int32) (0 : Int32)) fun x13 =>
  some x13
set_option maxHeartbeats 4000000 in
set_option maxRecDepth 100000 in
theorem r_X2_letIn_L5 {l : Launch} {g : zL} {p : Program} {e : Env} {s : State} {m : MethodId} {args : Array Value} {below : List Frame} {meth : Method} {c : Code} {Q : State → Prop} (C0 : zC p s m args meth c g cX2_letIn yX2_letIn 5 (some (.int))) (a0 : Nat) (a1 : Nat) (v2 : Int32) (μ5 : zM) (hU1 : zT zNN zσ1 a0 2) (hU2 : zT zNN zσ1 a1 6) : ∀ (n : Nat) (y3 : Int32) (y4 : Int32) (x13 : Int32), f_X2_letIn_L5 a0 a1 v2 μ5 n y3 y4 = some x13 → Z p l e (zrm 1 0 0) s m args below meth c g Q 5 zNN 0 0 zσ1 μ5 46 [(3, .int x13)] [] → Z p l e (zrm 1 0 0) s m args below meth c g Q 5 zNN 0 0 zσ1 μ5 5 [(0, .ref (zb g + a0)), (1, .ref (zb g + a1)), (2, .int v2), (3, .int y3), (4, .int y4)] [] := by
  intro n
  induction n with
  | zero =>
    intro y3 y4 x13 h kx
    rw [f_X2_letIn_L5] at h
    cases h
  | succ n ih =>
    intro y3 y4 x13 h kx
    rw [f_X2_letIn_L5] at h
    refine z_iload C0 dX2_letIn_5 4 rfl ?_
    refine z_aload_n C0 dX2_letIn_7 rfl 1 rfl ?_
    refine z_geti C0 hU2.1 hU2.2.2.1 kf_2_54 zr_6_2 dX2_letIn_8 ?_
    by_cases hc14 : (¬ ((μ5 a1 2) ≤ y4)) ∧ (¬ ((4 : Int32) ≤ y4))
    · have h := zif_t hc14 h
      refine z_join μ5 20 [(0, .ref (zb g + a0)), (1, .ref (zb g + a1)), (2, .int v2), (3, .int y3), (4, .int y4)] [] ?_ (fun k15 => ?_)
      · refine z_iload_n C0 dX2_letIn_20 rfl 3 rfl ?_
        refine z_aload_n C0 dX2_letIn_21 rfl 0 rfl ?_
        refine z_getr C0 hU1 kf_2_20 zr_2_4 zx_2 (zs_2_4 hU1).1 dX2_letIn_22 ?_
        refine z_iload_n C0 dX2_letIn_25 rfl 2 rfl ?_
        obtain ⟨g8, h⟩ := zg_of h
        refine z_aald C0 (zs_2_4 hU1).2 (by decide) (by decide) g8 (ze_2_4 hU1 g8).1 (ze_2_4 hU1 g8).2.1 dX2_letIn_26 ?_
        refine z_iload C0 dX2_letIn_27 4 rfl ?_
        obtain ⟨g9, h⟩ := zg_of h
        refine z_iald C0 (ze_2_4 hU1 g8).2.2 g9 rfl dX2_letIn_29 ?_
        refine z_aload_n C0 dX2_letIn_30 rfl 1 rfl ?_
        refine z_iload C0 dX2_letIn_31 4 rfl ?_
        refine z_iconst (v := (1 : Int32)) C0 dX2_letIn_33 (by decide) ?_
        obtain ⟨r10, e_r10, h⟩ := zbd_of h
        refine z_callV (As := [.int y4, .int (1 : Int32)]) (rest := [.int (μ5 (a0 + 4 + 1 * v2.toNatClampNeg) (y4.toNatClampNeg)), .int y3]) C0 rfl kc_X6_number km_RX2_63 (r_X6_number (l := l) (g := g) a1 y4 (1 : Int32) μ5 hU2 e_r10) hU2.1 hU2.2.2.1 rfl (by decide) rfl (Nat.le_of_ble_eq_true rfl) (Nat.le_of_ble_eq_true rfl) (Nat.le_of_ble_eq_true rfl) (Nat.le_of_ble_eq_true rfl) (Nat.le_refl _) rfl rfl dX2_letIn_34 ?_
        refine z_iadd C0 dX2_letIn_37 ?_
        refine z_iadd C0 dX2_letIn_38 ?_
        obtain ⟨x11, e_x11, h⟩ := zl_of h
        refine z_nm e_x11 ?_
        refine z_istore_n (lo1 := [(3, .int x11), (0, .ref (zb g + a0)), (1, .ref (zb g + a1)), (2, .int v2), (4, .int y4)]) C0 dX2_letIn_39 rfl (by decide) rfl ?_
        obtain ⟨x12, e_x12, h⟩ := zl_of h
        refine z_iinc (lo1 := [(4, .int x12), (3, .int x11), (0, .ref (zb g + a0)), (1, .ref (zb g + a1)), (2, .int v2)]) C0 dX2_letIn_40 4 rfl (by decide) e_x12.symm (by decide) rfl ?_
        refine z_goto C0 5 dX2_letIn_43 (by decide) ?_
        refine z_sub (lo1 := [(0, .ref (zb g + a0)), (1, .ref (zb g + a1)), (2, .int v2), (3, .int x11), (4, .int x12)]) [2, 3, 4, 1, 0] rfl ?_
        exact ih _ _ _ h kx
      · refine z_icmp_ge C0 46 dX2_letIn_11 (by decide) (fun c6 => ?_) (fun c6 => ?_)
        · exact absurd hc14 (fun q => q.1 c6)
        · refine z_iload C0 dX2_letIn_14 4 rfl ?_
          refine z_iconst (v := (4 : Int32)) C0 dX2_letIn_16 (by decide) ?_
          refine z_icmp_ge C0 46 dX2_letIn_17 (by decide) (fun c7 => ?_) (fun c7 => ?_)
          · exact absurd hc14 (fun q => (fun q => q c7) q.2)
          · exact k15
    · have h := zif_f hc14 h
      refine z_join μ5 46 [(0, .ref (zb g + a0)), (1, .ref (zb g + a1)), (2, .int v2), (3, .int y3), (4, .int y4)] [] ?_ (fun k16 => ?_)
      · refine z_sub (lo1 := [(3, .int y3)]) [3] rfl ?_
        obtain rfl := (Option.some.inj h)
        exact kx
      · refine z_icmp_ge C0 46 dX2_letIn_11 (by decide) (fun c6 => ?_) (fun c6 => ?_)
        · exact k16
        · refine z_iload C0 dX2_letIn_14 4 rfl ?_
          refine z_iconst (v := (4 : Int32)) C0 dX2_letIn_16 (by decide) ?_
          refine z_icmp_ge C0 46 dX2_letIn_17 (by decide) (fun c7 => ?_) (fun c7 => ?_)
          · exact k16
          · exact absurd ⟨c6, c7⟩ hc14
set_option maxHeartbeats 4000000 in
set_option maxRecDepth 100000 in
theorem r_X2_letIn {l : Launch} {g : zL} (a0 : Nat) (a1 : Nat) (v2 : Int32) (μ : zM) (hT0 : zT zNN zσ1 a0 2) (hT1 : zT zNN zσ1 a1 6) {rv : Int32} (h : f_X2_letIn a0 a1 v2 μ = some rv) : zMet l g yX2_letIn cX2_letIn 5 (some (.int)) 1 0 0 zNN zNN zσ1 zσ1 [.ref (zb g + a0), .ref (zb g + a1), .int v2] μ (some (.int rv)) μ := by
  refine zMet.of (by decide +kernel) (Nat.le_of_ble_eq_true rfl) ?_
  intro p e s m args below meth c C0
  refine z_loc (lo1 := [(0, .ref (zb g + a0)), (1, .ref (zb g + a1)), (2, .int v2)]) rfl ?_
  unfold f_X2_letIn at h
  refine z_iconst (v := (0 : Int32)) C0 dX2_letIn_0 (by decide) ?_
  refine z_istore_n (lo1 := [(3, .int (0 : Int32)), (0, .ref (zb g + a0)), (1, .ref (zb g + a1)), (2, .int v2)]) C0 dX2_letIn_1 rfl (by decide) rfl ?_
  refine z_iconst (v := (0 : Int32)) C0 dX2_letIn_2 (by decide) ?_
  refine z_istore (lo1 := [(4, .int (0 : Int32)), (3, .int (0 : Int32)), (0, .ref (zb g + a0)), (1, .ref (zb g + a1)), (2, .int v2)]) C0 dX2_letIn_3 (by decide) rfl ?_
  refine z_sub (lo1 := [(0, .ref (zb g + a0)), (1, .ref (zb g + a1)), (2, .int v2), (3, .int (0 : Int32)), (4, .int (0 : Int32))]) [2, 3, 4, 1, 0] rfl ?_
  obtain ⟨x13, e_x13, h⟩ := zbd_of h
  refine r_X2_letIn_L5 C0 a0 a1 v2 μ hT0 hT1 zFU (0 : Int32) (0 : Int32) x13 e_x13 ?_
  refine z_iload_n C0 dX2_letIn_46 rfl 0 rfl ?_
  have h := Option.some.inj h
  obtain rfl := h
  exact z_iret C0 rfl dX2_letIn_47
def f_X2_bailOne_L10 (a0 : Nat) (a1 : Nat) (v2 : Int32) (v3 : Int32) : Nat → Int32 → zM → Option (zM)
  | 0, _, _ => none
  | n + 1, y5, μ6 =>
    if (¬ ((μ6 a1 2) ≤ y5)) ∧ (¬ ((4 : Int32) ≤ y5)) then
      zg (zin (v2 + (1 : Int32)) 9) <|
      zbd (if ¬ y5 = v3 then
          zg (zin v2 9) <|
          zg (zin y5 4) <|
          zbd (f_X6_number a1 y5 (1 : Int32) μ6) fun r14 =>
          some ((μ6 (a0 + 4 + 1 * v2.toNatClampNeg) (y5.toNatClampNeg)) + r14)
        else
          some (0 : Int32)) fun x15 =>
      zg (zin y5 4) <|
      zl (zup μ6 (a0 + 4 + 1 * (v2 + (1 : Int32)).toNatClampNeg) (y5.toNatClampNeg) x15) fun μ17 =>
      zl (y5 + (1 : Int32)) fun x18 =>
      f_X2_bailOne_L10 a0 a1 v2 v3 n x18 μ17
    else
      some μ6
def f_X2_bailOne (a0 : Nat) (a1 : Nat) (v2 : Int32) (v3 : Int32) (μ : zM) : Option (zM) :=
  zg (zin v2 8) <|
  zl (zup μ (a0 + 1) (v2.toNatClampNeg) v3) fun μ2 =>
  zbd (f_X2_bailOne_L10 a0 a1 v2 v3 zFU (0 : Int32) μ2) fun μ19 =>
  some μ19
set_option maxHeartbeats 4000000 in
set_option maxRecDepth 100000 in
theorem r_X2_bailOne_L10 {l : Launch} {g : zL} {p : Program} {e : Env} {s : State} {m : MethodId} {args : Array Value} {below : List Frame} {meth : Method} {c : Code} {Q : State → Prop} (C0 : zC p s m args meth c g cX2_bailOne yX2_bailOne 5 none) (a0 : Nat) (a1 : Nat) (v2 : Int32) (v3 : Int32) (hU3 : zT zNN zσ1 a0 2) (hU4 : zT zNN zσ1 a1 6) : ∀ (n : Nat) (y5 : Int32) (μ6 : zM) (μ19 : zM), f_X2_bailOne_L10 a0 a1 v2 v3 n y5 μ6 = some μ19 → Z p l e (zrm 1 0 0) s m args below meth c g Q 5 zNN 0 0 zσ1 μ19 69 [] [] → Z p l e (zrm 1 0 0) s m args below meth c g Q 5 zNN 0 0 zσ1 μ6 10 [(0, .ref (zb g + a0)), (1, .ref (zb g + a1)), (2, .int v2), (3, .int v3), (4, .int y5)] [] := by
  intro n
  induction n with
  | zero =>
    intro y5 μ6 μ19 h kx
    rw [f_X2_bailOne_L10] at h
    cases h
  | succ n ih =>
    intro y5 μ6 μ19 h kx
    rw [f_X2_bailOne_L10] at h
    refine z_iload C0 dX2_bailOne_10 4 rfl ?_
    refine z_aload_n C0 dX2_bailOne_12 rfl 1 rfl ?_
    refine z_geti C0 hU4.1 hU4.2.2.1 kf_2_54 zr_6_2 dX2_bailOne_13 ?_
    by_cases hc20 : (¬ ((μ6 a1 2) ≤ y5)) ∧ (¬ ((4 : Int32) ≤ y5))
    · have h := zif_t hc20 h
      refine z_join μ6 25 [(0, .ref (zb g + a0)), (1, .ref (zb g + a1)), (2, .int v2), (3, .int v3), (4, .int y5)] [] ?_ (fun k21 => ?_)
      · refine z_aload_n C0 dX2_bailOne_25 rfl 0 rfl ?_
        refine z_getr C0 hU3 kf_2_20 zr_2_4 zx_2 (zs_2_4 hU3).1 dX2_bailOne_26 ?_
        refine z_iload_n C0 dX2_bailOne_29 rfl 2 rfl ?_
        refine z_iconst (v := (1 : Int32)) C0 dX2_bailOne_30 (by decide) ?_
        refine z_iadd C0 dX2_bailOne_31 ?_
        obtain ⟨g9, h⟩ := zg_of h
        refine z_aald C0 (zs_2_4 hU3).2 (by decide) (by decide) g9 (ze_2_4 hU3 g9).1 (ze_2_4 hU3 g9).2.1 dX2_bailOne_32 ?_
        refine z_iload C0 dX2_bailOne_33 4 rfl ?_
        refine z_iload C0 dX2_bailOne_35 4 rfl ?_
        refine z_iload_n C0 dX2_bailOne_37 rfl 3 rfl ?_
        obtain ⟨x15, e_x15, h⟩ := zbd_of h
        refine z_join μ6 62 [(0, .ref (zb g + a0)), (1, .ref (zb g + a1)), (2, .int v2), (3, .int v3), (4, .int y5)] [.int x15, .int y5, .ref (zb g + (a0 + 4 + 1 * (v2 + (1 : Int32)).toNatClampNeg))] ?_ (fun k_J11 => ?_)
        · obtain ⟨g16, h⟩ := zg_of h
          obtain ⟨μ17, e_μ17, h⟩ := zl_of h
          refine z_iast C0 (ze_2_4 hU3 g9).2.2 g16 rfl e_μ17 dX2_bailOne_62 ?_
          obtain ⟨x18, e_x18, h⟩ := zl_of h
          refine z_iinc (lo1 := [(4, .int x18), (0, .ref (zb g + a0)), (1, .ref (zb g + a1)), (2, .int v2), (3, .int v3)]) C0 dX2_bailOne_63 4 rfl (by decide) e_x18.symm (by decide) rfl ?_
          refine z_goto C0 10 dX2_bailOne_66 (by decide) ?_
          refine z_sub (lo1 := [(0, .ref (zb g + a0)), (1, .ref (zb g + a1)), (2, .int v2), (3, .int v3), (4, .int x18)]) [1, 2, 3, 4, 0] rfl ?_
          exact ih _ _ _ h kx
        · have h := e_x15
          refine z_icmp_ne C0 45 dX2_bailOne_38 (by decide) (fun c10 => ?_) (fun c10 => ?_)
          · have h := zif_t c10 h
            refine z_aload_n C0 dX2_bailOne_45 rfl 0 rfl ?_
            refine z_getr C0 hU3 kf_2_20 zr_2_4 zx_2 (zs_2_4 hU3).1 dX2_bailOne_46 ?_
            refine z_iload_n C0 dX2_bailOne_49 rfl 2 rfl ?_
            obtain ⟨g12, h⟩ := zg_of h
            refine z_aald C0 (zs_2_4 hU3).2 (by decide) (by decide) g12 (ze_2_4 hU3 g12).1 (ze_2_4 hU3 g12).2.1 dX2_bailOne_50 ?_
            refine z_iload C0 dX2_bailOne_51 4 rfl ?_
            obtain ⟨g13, h⟩ := zg_of h
            refine z_iald C0 (ze_2_4 hU3 g12).2.2 g13 rfl dX2_bailOne_53 ?_
            refine z_aload_n C0 dX2_bailOne_54 rfl 1 rfl ?_
            refine z_iload C0 dX2_bailOne_55 4 rfl ?_
            refine z_iconst (v := (1 : Int32)) C0 dX2_bailOne_57 (by decide) ?_
            obtain ⟨r14, e_r14, h⟩ := zbd_of h
            refine z_callV (As := [.int y5, .int (1 : Int32)]) (rest := [.int (μ6 (a0 + 4 + 1 * v2.toNatClampNeg) (y5.toNatClampNeg)), .int y5, .ref (zb g + (a0 + 4 + 1 * (v2 + (1 : Int32)).toNatClampNeg))]) C0 rfl kc_X6_number km_RX2_63 (r_X6_number (l := l) (g := g) a1 y5 (1 : Int32) μ6 hU4 e_r14) hU4.1 hU4.2.2.1 rfl (by decide) rfl (Nat.le_of_ble_eq_true rfl) (Nat.le_of_ble_eq_true rfl) (Nat.le_of_ble_eq_true rfl) (Nat.le_of_ble_eq_true rfl) (Nat.le_refl _) rfl rfl dX2_bailOne_58 ?_
            refine z_iadd C0 dX2_bailOne_61 ?_
            obtain rfl := (Option.some.inj h)
            exact k_J11
          · have h := zif_f (fun q => q c10) h
            refine z_iconst (v := (0 : Int32)) C0 dX2_bailOne_41 (by decide) ?_
            refine z_goto C0 62 dX2_bailOne_42 (by decide) ?_
            obtain rfl := (Option.some.inj h)
            exact k_J11
      · refine z_icmp_ge C0 69 dX2_bailOne_16 (by decide) (fun c7 => ?_) (fun c7 => ?_)
        · exact absurd hc20 (fun q => q.1 c7)
        · refine z_iload C0 dX2_bailOne_19 4 rfl ?_
          refine z_iconst (v := (4 : Int32)) C0 dX2_bailOne_21 (by decide) ?_
          refine z_icmp_ge C0 69 dX2_bailOne_22 (by decide) (fun c8 => ?_) (fun c8 => ?_)
          · exact absurd hc20 (fun q => (fun q => q c8) q.2)
          · exact k21
    · have h := zif_f hc20 h
      refine z_join μ6 69 [(0, .ref (zb g + a0)), (1, .ref (zb g + a1)), (2, .int v2), (3, .int v3), (4, .int y5)] [] ?_ (fun k22 => ?_)
      · refine z_sub (lo1 := []) [] rfl ?_
        obtain rfl := (Option.some.inj h)
        exact kx
      · refine z_icmp_ge C0 69 dX2_bailOne_16 (by decide) (fun c7 => ?_) (fun c7 => ?_)
        · exact k22
        · refine z_iload C0 dX2_bailOne_19 4 rfl ?_
          refine z_iconst (v := (4 : Int32)) C0 dX2_bailOne_21 (by decide) ?_
          refine z_icmp_ge C0 69 dX2_bailOne_22 (by decide) (fun c8 => ?_) (fun c8 => ?_)
          · exact k22
          · exact absurd ⟨c7, c8⟩ hc20
set_option maxHeartbeats 4000000 in
set_option maxRecDepth 100000 in
theorem r_X2_bailOne {l : Launch} {g : zL} (a0 : Nat) (a1 : Nat) (v2 : Int32) (v3 : Int32) (μ : zM) (hT0 : zT zNN zσ1 a0 2) (hT1 : zT zNN zσ1 a1 6) {μr : zM} (h : f_X2_bailOne a0 a1 v2 v3 μ = some μr) : zMet l g yX2_bailOne cX2_bailOne 5 none 1 0 0 zNN zNN zσ1 zσ1 [.ref (zb g + a0), .ref (zb g + a1), .int v2, .int v3] μ none μr := by
  refine zMet.of (by decide +kernel) (Nat.le_of_ble_eq_true rfl) ?_
  intro p e s m args below meth c C0
  refine z_loc (lo1 := [(0, .ref (zb g + a0)), (1, .ref (zb g + a1)), (2, .int v2), (3, .int v3)]) rfl ?_
  unfold f_X2_bailOne at h
  refine z_aload_n C0 dX2_bailOne_0 rfl 0 rfl ?_
  refine z_getr C0 hT0 kf_2_11 zr_2_2 zx_2 (zs_2_2 hT0).1 dX2_bailOne_1 ?_
  refine z_iload_n C0 dX2_bailOne_4 rfl 2 rfl ?_
  refine z_iload_n C0 dX2_bailOne_5 rfl 3 rfl ?_
  obtain ⟨g1, h⟩ := zg_of h
  obtain ⟨μ2, e_μ2, h⟩ := zl_of h
  refine z_iast C0 (zs_2_2 hT0).2 g1 rfl e_μ2 dX2_bailOne_6 ?_
  refine z_iconst (v := (0 : Int32)) C0 dX2_bailOne_7 (by decide) ?_
  refine z_istore (lo1 := [(4, .int (0 : Int32)), (0, .ref (zb g + a0)), (1, .ref (zb g + a1)), (2, .int v2), (3, .int v3)]) C0 dX2_bailOne_8 (by decide) rfl ?_
  refine z_sub (lo1 := [(0, .ref (zb g + a0)), (1, .ref (zb g + a1)), (2, .int v2), (3, .int v3), (4, .int (0 : Int32))]) [1, 2, 3, 4, 0] rfl ?_
  obtain ⟨μ19, e_μ19, h⟩ := zbd_of h
  refine r_X2_bailOne_L10 C0 a0 a1 v2 v3 hT0 hT1 zFU (0 : Int32) μ2 μ19 e_μ19 ?_
  have h := Option.some.inj h
  obtain rfl := h
  exact z_vret C0 rfl dX2_bailOne_69
def f_X2_tryHour_L44 (rc : Nat → Nat → Int32 → Int32 → zM → Option zM) (a0 : Nat) (a1 : Nat) (v2 : Int32) (x3 : Int32) : Nat → Int32 → zM → Option (zM)
  | 0, _, _ => none
  | n + 1, y6, μ7 =>
    if (¬ ((μ7 a1 2) ≤ y6)) ∧ (¬ ((μ7 a0 0) ≤ x3)) then
      zbd (f_X2_bailOne a0 a1 v2 y6 μ7) fun μ10 =>
      zbd (rc a0 a1 (v2 + (1 : Int32)) x3 μ10) fun μ11 =>
      zl (y6 + (1 : Int32)) fun x12 =>
      f_X2_tryHour_L44 rc a0 a1 v2 x3 n x12 μ11
    else
      some μ7
def f_X2_tryHour : Nat → Nat → Nat → Int32 → Int32 → zM → Option zM
  | 0, _, _, _, _, _ => none
  | m + 1, a0, a1, v2, v3, μ =>
  if v2 < (μ a0 1) then
    zbd (f_X2_letIn a0 a1 v2 μ) fun r2 =>
    zl (zmax v3 r2) fun x3 =>
    zbd (f_X2_tryHour_L44 (f_X2_tryHour m) a0 a1 v2 x3 zFU (0 : Int32) μ) fun μ13 =>
    some μ13
  else
    zl (zup μ a0 0 v3) fun μ14 =>
    zg (zcpg (0 : Int32) (0 : Int32) (8 : Int32) 8 8) <|
    zl (zcp μ14 (a0 + 1) (a0 + 2) (0 : Int32) (0 : Int32) (8 : Int32)) fun μ16 =>
    some μ16
set_option maxHeartbeats 4000000 in
set_option maxRecDepth 100000 in
theorem r_X2_tryHour_L44 {l : Launch} {g : zL} {p : Program} {e : Env} {s : State} {m : MethodId} {args : Array Value} {below : List Frame} {meth : Method} {c : Code} {Q : State → Prop} (C0 : zC p s m args meth c g cX2_tryHour yX2_tryHour 6 none) (nn : Nat) (rc : Nat → Nat → Int32 → Int32 → zM → Option zM) (hrc : ∀ (a0 a1 : Nat) (v2 v3 : Int32) (μ : zM), zT zNN zσ1 a0 2 → zT zNN zσ1 a1 6 → ∀ {μr : zM}, rc a0 a1 v2 v3 μ = some μr → zMet l g yX2_tryHour cX2_tryHour 6 none (nn + 2) 0 0 zNN zNN zσ1 zσ1 [.ref (zb g + a0), .ref (zb g + a1), .int v2, .int v3] μ none μr) (a0 : Nat) (a1 : Nat) (v2 : Int32) (x3 : Int32) (hU4 : zT zNN zσ1 a0 2) (hU5 : zT zNN zσ1 a1 6) : ∀ (n : Nat) (y6 : Int32) (μ7 : zM) (μ13 : zM), f_X2_tryHour_L44 rc a0 a1 v2 x3 n y6 μ7 = some μ13 → Z p l e (zrm (nn + 1 + 2) 0 0) s m args below meth c g Q 6 zNN 0 0 zσ1 μ13 86 [] [] → Z p l e (zrm (nn + 1 + 2) 0 0) s m args below meth c g Q 6 zNN 0 0 zσ1 μ7 44 [(0, .ref (zb g + a0)), (1, .ref (zb g + a1)), (2, .int v2), (4, .int x3), (5, .int y6)] [] := by
  intro n
  induction n with
  | zero =>
    intro y6 μ7 μ13 h kx
    rw [f_X2_tryHour_L44] at h
    cases h
  | succ n ih =>
    intro y6 μ7 μ13 h kx
    rw [f_X2_tryHour_L44] at h
    refine z_iload C0 dX2_tryHour_44 4 rfl ?_
    refine z_aload_n C0 dX2_tryHour_46 rfl 1 rfl ?_
    refine z_geti C0 hU5.1 hU5.2.2.1 kf_2_54 zr_6_2 dX2_tryHour_47 ?_
    by_cases hc17 : (¬ ((μ7 a1 2) ≤ y6)) ∧ (¬ ((μ7 a0 0) ≤ x3))
    · have h := zif_t hc17 h
      refine z_join μ7 62 [(0, .ref (zb g + a0)), (1, .ref (zb g + a1)), (2, .int v2), (4, .int x3), (5, .int y6)] [] ?_ (fun k18 => ?_)
      · refine z_aload_n C0 dX2_tryHour_62 rfl 0 rfl ?_
        refine z_aload_n C0 dX2_tryHour_63 rfl 1 rfl ?_
        refine z_iload_n C0 dX2_tryHour_64 rfl 2 rfl ?_
        refine z_iload C0 dX2_tryHour_65 4 rfl ?_
        obtain ⟨μ10, e_μ10, h⟩ := zbd_of h
        refine z_callV (As := [.ref (zb g + a1), .int v2, .int y6]) (rest := []) C0 rfl kc_X2_bailOne km_RX2_59 (r_X2_bailOne (l := l) (g := g) a0 a1 v2 y6 μ7 hU4 hU5 e_μ10) hU4.1 hU4.2.2.1 rfl (by decide) rfl (Nat.le_of_ble_eq_true rfl) (by omega) (Nat.le_of_ble_eq_true rfl) (Nat.le_of_ble_eq_true rfl) (Nat.le_refl _) rfl rfl dX2_tryHour_67 ?_
        refine z_aload_n C0 dX2_tryHour_70 rfl 0 rfl ?_
        refine z_aload_n C0 dX2_tryHour_71 rfl 1 rfl ?_
        refine z_iload_n C0 dX2_tryHour_72 rfl 2 rfl ?_
        refine z_iconst (v := (1 : Int32)) C0 dX2_tryHour_73 (by decide) ?_
        refine z_iadd C0 dX2_tryHour_74 ?_
        refine z_iload C0 dX2_tryHour_75 3 rfl ?_
        obtain ⟨μ11, e_μ11, h⟩ := zbd_of h
        refine z_callS (As := [.ref (zb g + a0), .ref (zb g + a1), .int (v2 + (1 : Int32)), .int x3]) (rest := []) C0 rfl kc_X2_tryHour km_RX2_37 (hrc a0 a1 (v2 + (1 : Int32)) x3 μ10 hU4 hU5 e_μ11) rfl (Nat.le_of_ble_eq_true rfl) (by omega) (Nat.le_of_ble_eq_true rfl) (Nat.le_of_ble_eq_true rfl) (Nat.le_refl _) rfl rfl dX2_tryHour_77 ?_
        obtain ⟨x12, e_x12, h⟩ := zl_of h
        refine z_iinc (lo1 := [(5, .int x12), (0, .ref (zb g + a0)), (1, .ref (zb g + a1)), (2, .int v2), (4, .int x3)]) C0 dX2_tryHour_80 4 rfl (by decide) e_x12.symm (by decide) rfl ?_
        refine z_goto C0 44 dX2_tryHour_83 (by decide) ?_
        refine z_sub (lo1 := [(0, .ref (zb g + a0)), (1, .ref (zb g + a1)), (2, .int v2), (4, .int x3), (5, .int x12)]) [1, 2, 3, 4, 0] rfl ?_
        exact ih _ _ _ h kx
      · refine z_icmp_ge C0 86 dX2_tryHour_50 (by decide) (fun c8 => ?_) (fun c8 => ?_)
        · exact absurd hc17 (fun q => q.1 c8)
        · refine z_iload C0 dX2_tryHour_53 3 rfl ?_
          refine z_aload_n C0 dX2_tryHour_55 rfl 0 rfl ?_
          refine z_geti C0 hU4.1 hU4.2.2.1 kf_2_34 zr_2_0 dX2_tryHour_56 ?_
          refine z_icmp_ge C0 86 dX2_tryHour_59 (by decide) (fun c9 => ?_) (fun c9 => ?_)
          · exact absurd hc17 (fun q => (fun q => q c9) q.2)
          · exact k18
    · have h := zif_f hc17 h
      refine z_join μ7 86 [(0, .ref (zb g + a0)), (1, .ref (zb g + a1)), (2, .int v2), (4, .int x3), (5, .int y6)] [] ?_ (fun k19 => ?_)
      · refine z_sub (lo1 := []) [] rfl ?_
        obtain rfl := (Option.some.inj h)
        exact kx
      · refine z_icmp_ge C0 86 dX2_tryHour_50 (by decide) (fun c8 => ?_) (fun c8 => ?_)
        · exact k19
        · refine z_iload C0 dX2_tryHour_53 3 rfl ?_
          refine z_aload_n C0 dX2_tryHour_55 rfl 0 rfl ?_
          refine z_geti C0 hU4.1 hU4.2.2.1 kf_2_34 zr_2_0 dX2_tryHour_56 ?_
          refine z_icmp_ge C0 86 dX2_tryHour_59 (by decide) (fun c9 => ?_) (fun c9 => ?_)
          · exact k19
          · exact absurd ⟨c8, c9⟩ hc17
set_option maxHeartbeats 4000000 in
set_option maxRecDepth 100000 in
theorem r_X2_tryHour {l : Launch} {g : zL} : ∀ (nn : Nat) (a0 a1 : Nat) (v2 v3 : Int32) (μ : zM), zT zNN zσ1 a0 2 → zT zNN zσ1 a1 6 → ∀ {μr : zM}, f_X2_tryHour nn a0 a1 v2 v3 μ = some μr → zMet l g yX2_tryHour cX2_tryHour 6 none (nn + 2) 0 0 zNN zNN zσ1 zσ1 [.ref (zb g + a0), .ref (zb g + a1), .int v2, .int v3] μ none μr := by
  intro nn
  induction nn with
  | zero =>
    intro a0 a1 v2 v3 μ hT0 hT1 μr h
    rw [f_X2_tryHour] at h
    cases h
  | succ m ih =>
    intro a0 a1 v2 v3 μ hT0 hT1 μr h
    rw [f_X2_tryHour] at h
    refine zMet.of (by decide +kernel) (Nat.le_of_ble_eq_true rfl) ?_
    intro p e s m9 args below meth c C0
    refine z_loc (lo1 := [(0, .ref (zb g + a0)), (1, .ref (zb g + a1)), (2, .int v2), (3, .int v3)]) rfl ?_
    refine z_iload_n C0 dX2_tryHour_0 rfl 2 rfl ?_
    refine z_aload_n C0 dX2_tryHour_1 rfl 0 rfl ?_
    refine z_geti C0 hT0.1 hT0.2.2.1 kf_2_29 zr_2_1 dX2_tryHour_2 ?_
    refine z_icmp_lt C0 29 dX2_tryHour_5 (by decide) (fun c1 => ?_) (fun c1 => ?_)
    · have h := zif_t c1 h
      refine z_iload_n C0 dX2_tryHour_29 rfl 3 rfl ?_
      refine z_aload_n C0 dX2_tryHour_30 rfl 0 rfl ?_
      refine z_aload_n C0 dX2_tryHour_31 rfl 1 rfl ?_
      refine z_iload_n C0 dX2_tryHour_32 rfl 2 rfl ?_
      obtain ⟨r2, e_r2, h⟩ := zbd_of h
      refine z_callV (As := [.ref (zb g + a1), .int v2]) (rest := [.int v3]) C0 rfl kc_X2_letIn km_RX2_47 (r_X2_letIn (l := l) (g := g) a0 a1 v2 μ hT0 hT1 e_r2) hT0.1 hT0.2.2.1 rfl (by decide) rfl (Nat.le_of_ble_eq_true rfl) (by omega) (Nat.le_of_ble_eq_true rfl) (Nat.le_of_ble_eq_true rfl) (Nat.le_refl _) rfl rfl dX2_tryHour_33 ?_
      refine z_mmax C0 rfl kM_RX2_51 kM_max (Nat.le_of_ble_eq_true rfl) (Nat.zero_le _) (Nat.zero_le _) dX2_tryHour_36 ?_
      obtain ⟨x3, e_x3, h⟩ := zl_of h
      refine z_nm e_x3 ?_
      refine z_istore (lo1 := [(4, .int x3), (0, .ref (zb g + a0)), (1, .ref (zb g + a1)), (2, .int v2), (3, .int v3)]) C0 dX2_tryHour_39 (by decide) rfl ?_
      refine z_iconst (v := (0 : Int32)) C0 dX2_tryHour_41 (by decide) ?_
      refine z_istore (lo1 := [(5, .int (0 : Int32)), (4, .int x3), (0, .ref (zb g + a0)), (1, .ref (zb g + a1)), (2, .int v2), (3, .int v3)]) C0 dX2_tryHour_42 (by decide) rfl ?_
      refine z_sub (lo1 := [(0, .ref (zb g + a0)), (1, .ref (zb g + a1)), (2, .int v2), (4, .int x3), (5, .int (0 : Int32))]) [2, 3, 4, 1, 0] rfl ?_
      obtain ⟨μ13, e_μ13, h⟩ := zbd_of h
      refine r_X2_tryHour_L44 C0 m (f_X2_tryHour m) ih a0 a1 v2 x3 hT0 hT1 zFU (0 : Int32) μ μ13 e_μ13 ?_
      have h := Option.some.inj h
      obtain rfl := h
      exact z_vret C0 rfl dX2_tryHour_86
    · have h := zif_f c1 h
      refine z_aload_n C0 dX2_tryHour_8 rfl 0 rfl ?_
      refine z_iload_n C0 dX2_tryHour_9 rfl 3 rfl ?_
      obtain ⟨μ14, e_μ14, h⟩ := zl_of h
      refine z_puti C0 hT0.1 hT0.2.2.1 kf_2_34 zp_2_0 zr_2_0 e_μ14 dX2_tryHour_10 ?_
      refine z_aload_n C0 dX2_tryHour_13 rfl 0 rfl ?_
      refine z_getr C0 hT0 kf_2_11 zr_2_2 zx_2 (zs_2_2 hT0).1 dX2_tryHour_14 ?_
      refine z_iconst (v := (0 : Int32)) C0 dX2_tryHour_17 (by decide) ?_
      refine z_aload_n C0 dX2_tryHour_18 rfl 0 rfl ?_
      refine z_getr C0 hT0 kf_2_15 zr_2_3 zx_2 (zs_2_3 hT0).1 dX2_tryHour_19 ?_
      refine z_iconst (v := (0 : Int32)) C0 dX2_tryHour_22 (by decide) ?_
      refine z_bipush (v := (8 : Int32)) C0 dX2_tryHour_23 (by decide) ?_
      obtain ⟨g15, h⟩ := zg_of h
      obtain ⟨μ16, e_μ16, h⟩ := zl_of h
      refine z_copyi C0 rfl km_RX2_41 kA (zs_2_2 hT0).2 (zs_2_3 hT0).2 g15 (Nat.le_of_ble_eq_true rfl) e_μ16 dX2_tryHour_25 ?_
      have h := Option.some.inj h
      obtain rfl := h
      exact z_vret C0 rfl dX2_tryHour_28
def f_X2_plan_L18 (a0 : Nat) (a1 : Nat) : Nat → Int32 → zM → Option (zM)
  | 0, _, _ => none
  | n + 1, y5, μ6 =>
    if (4 : Int32) ≤ y5 then
      some μ6
    else
      zg (zin y5 4) <|
      zl (zup μ6 (a0 + 4 + 1 * (0 : Int32).toNatClampNeg) (y5.toNatClampNeg) (0 : Int32)) fun μ9 =>
      zl (y5 + (1 : Int32)) fun x10 =>
      f_X2_plan_L18 a0 a1 n x10 μ9
def f_X2_plan (a0 : Nat) (a1 : Nat) (v2 : Int32) (μ : zM) : Option (zM) :=
  zl (zup μ a0 1 (zmin v2 (8 : Int32))) fun μ1 =>
  zl (zup μ1 a0 0 (1000000 : Int32)) fun μ2 =>
  zbd (f_X2_plan_L18 a0 a1 zFU (0 : Int32) μ2) fun μ11 =>
  zbd (f_X2_tryHour 9 a0 a1 (0 : Int32) (0 : Int32) μ11) fun μ12 =>
  some μ12
set_option maxHeartbeats 4000000 in
set_option maxRecDepth 100000 in
theorem r_X2_plan_L18 {l : Launch} {g : zL} {p : Program} {e : Env} {s : State} {m : MethodId} {args : Array Value} {below : List Frame} {meth : Method} {c : Code} {Q : State → Prop} (C0 : zC p s m args meth c g cX2_plan yX2_plan 4 none) (a0 : Nat) (a1 : Nat) (hU3 : zT zNN zσ1 a0 2) (hU4 : zT zNN zσ1 a1 6) : ∀ (n : Nat) (y5 : Int32) (μ6 : zM) (μ11 : zM), f_X2_plan_L18 a0 a1 n y5 μ6 = some μ11 → Z p l e (zrm 12 0 0) s m args below meth c g Q 4 zNN 0 0 zσ1 μ11 38 [(0, .ref (zb g + a0)), (1, .ref (zb g + a1))] [] → Z p l e (zrm 12 0 0) s m args below meth c g Q 4 zNN 0 0 zσ1 μ6 18 [(0, .ref (zb g + a0)), (1, .ref (zb g + a1)), (3, .int y5)] [] := by
  intro n
  induction n with
  | zero =>
    intro y5 μ6 μ11 h kx
    rw [f_X2_plan_L18] at h
    cases h
  | succ n ih =>
    intro y5 μ6 μ11 h kx
    rw [f_X2_plan_L18] at h
    refine z_iload_n C0 dX2_plan_18 rfl 2 rfl ?_
    refine z_iconst (v := (4 : Int32)) C0 dX2_plan_19 (by decide) ?_
    refine z_icmp_ge C0 38 dX2_plan_20 (by decide) (fun c7 => ?_) (fun c7 => ?_)
    · have h := zif_t c7 h
      refine z_sub (lo1 := [(0, .ref (zb g + a0)), (1, .ref (zb g + a1))]) [0, 1] rfl ?_
      obtain rfl := (Option.some.inj h)
      exact kx
    · have h := zif_f c7 h
      refine z_aload_n C0 dX2_plan_23 rfl 0 rfl ?_
      refine z_getr C0 hU3 kf_2_20 zr_2_4 zx_2 (zs_2_4 hU3).1 dX2_plan_24 ?_
      refine z_iconst (v := (0 : Int32)) C0 dX2_plan_27 (by decide) ?_
      refine z_aald C0 (zs_2_4 hU3).2 (by decide) (by decide) (by decide : zin (0 : Int32) 9 = true) (ze_2_4 hU3 (by decide : zin (0 : Int32) 9 = true)).1 (ze_2_4 hU3 (by decide : zin (0 : Int32) 9 = true)).2.1 dX2_plan_28 ?_
      refine z_iload_n C0 dX2_plan_29 rfl 2 rfl ?_
      refine z_iconst (v := (0 : Int32)) C0 dX2_plan_30 (by decide) ?_
      obtain ⟨g8, h⟩ := zg_of h
      obtain ⟨μ9, e_μ9, h⟩ := zl_of h
      refine z_iast C0 (ze_2_4 hU3 (by decide : zin (0 : Int32) 9 = true)).2.2 g8 rfl e_μ9 dX2_plan_31 ?_
      obtain ⟨x10, e_x10, h⟩ := zl_of h
      refine z_iinc (lo1 := [(3, .int x10), (0, .ref (zb g + a0)), (1, .ref (zb g + a1))]) C0 dX2_plan_32 2 rfl (by decide) e_x10.symm (by decide) rfl ?_
      refine z_goto C0 18 dX2_plan_35 (by decide) ?_
      refine z_sub (lo1 := [(0, .ref (zb g + a0)), (1, .ref (zb g + a1)), (3, .int x10)]) [1, 2, 0] rfl ?_
      exact ih _ _ _ h kx
set_option maxHeartbeats 4000000 in
set_option maxRecDepth 100000 in
theorem r_X2_plan {l : Launch} {g : zL} (a0 : Nat) (a1 : Nat) (v2 : Int32) (μ : zM) (hT0 : zT zNN zσ1 a0 2) (hT1 : zT zNN zσ1 a1 6) {μr : zM} (h : f_X2_plan a0 a1 v2 μ = some μr) : zMet l g yX2_plan cX2_plan 4 none 12 0 0 zNN zNN zσ1 zσ1 [.ref (zb g + a0), .ref (zb g + a1), .int v2] μ none μr := by
  refine zMet.of (by decide +kernel) (Nat.le_of_ble_eq_true rfl) ?_
  intro p e s m args below meth c C0
  refine z_loc (lo1 := [(0, .ref (zb g + a0)), (1, .ref (zb g + a1)), (2, .int v2)]) rfl ?_
  unfold f_X2_plan at h
  refine z_aload_n C0 dX2_plan_0 rfl 0 rfl ?_
  refine z_iload_n C0 dX2_plan_1 rfl 2 rfl ?_
  refine z_bipush (v := (8 : Int32)) C0 dX2_plan_2 (by decide) ?_
  refine z_mmin C0 rfl kM_RX2_23 kM_min (Nat.le_of_ble_eq_true rfl) (Nat.zero_le _) (Nat.zero_le _) dX2_plan_4 ?_
  obtain ⟨μ1, e_μ1, h⟩ := zl_of h
  refine z_puti C0 hT0.1 hT0.2.2.1 kf_2_29 zp_2_1 zr_2_1 e_μ1 dX2_plan_7 ?_
  refine z_aload_n C0 dX2_plan_10 rfl 0 rfl ?_
  refine z_ldc C0 dX2_plan_11 kk_RX2_33 ?_
  obtain ⟨μ2, e_μ2, h⟩ := zl_of h
  refine z_puti C0 hT0.1 hT0.2.2.1 kf_2_34 zp_2_0 zr_2_0 e_μ2 dX2_plan_13 ?_
  refine z_iconst (v := (0 : Int32)) C0 dX2_plan_16 (by decide) ?_
  refine z_istore_n (lo1 := [(3, .int (0 : Int32)), (0, .ref (zb g + a0)), (1, .ref (zb g + a1)), (2, .int v2)]) C0 dX2_plan_17 rfl (by decide) rfl ?_
  refine z_sub (lo1 := [(0, .ref (zb g + a0)), (1, .ref (zb g + a1)), (3, .int (0 : Int32))]) [1, 2, 0] rfl ?_
  obtain ⟨μ11, e_μ11, h⟩ := zbd_of h
  refine r_X2_plan_L18 C0 a0 a1 hT0 hT1 zFU (0 : Int32) μ2 μ11 e_μ11 ?_
  refine z_aload_n C0 dX2_plan_38 rfl 0 rfl ?_
  refine z_aload_n C0 dX2_plan_39 rfl 1 rfl ?_
  refine z_iconst (v := (0 : Int32)) C0 dX2_plan_40 (by decide) ?_
  refine z_iconst (v := (0 : Int32)) C0 dX2_plan_41 (by decide) ?_
  obtain ⟨μ12, e_μ12, h⟩ := zbd_of h
  refine z_callS (As := [.ref (zb g + a0), .ref (zb g + a1), .int (0 : Int32), .int (0 : Int32)]) (rest := []) C0 rfl kc_X2_tryHour km_RX2_37 (r_X2_tryHour (l := l) (g := g) 9 a0 a1 (0 : Int32) (0 : Int32) μ11 hT0 hT1 e_μ12) rfl (Nat.le_of_ble_eq_true rfl) (Nat.le_of_ble_eq_true rfl) (Nat.le_of_ble_eq_true rfl) (Nat.le_of_ble_eq_true rfl) (Nat.le_refl _) rfl rfl dX2_plan_42 ?_
  have h := Option.some.inj h
  obtain rfl := h
  exact z_vret C0 rfl dX2_plan_45
def f_X2_leakBailed (a0 : Nat) (v1 : Int32) (μ : zM) : Option (Int32) :=
  zbd (if (¬ (v1 < 0)) ∧ (¬ ((8 : Int32) ≤ v1)) then
      zg (zin v1 8) <|
      some (μ (a0 + 2) (v1.toNatClampNeg))
    else
      some (-1 : Int32)) fun x5 =>
  some x5
set_option maxHeartbeats 4000000 in
set_option maxRecDepth 100000 in
theorem r_X2_leakBailed {l : Launch} {g : zL} (a0 : Nat) (v1 : Int32) (μ : zM) (hT0 : zT zNN zσ1 a0 2) {rv : Int32} (h : f_X2_leakBailed a0 v1 μ = some rv) : zMet l g yX2_leakBailed cX2_leakBailed 2 (some (.int)) 0 0 0 zNN zNN zσ1 zσ1 [.ref (zb g + a0), .int v1] μ (some (.int rv)) μ := by
  refine zMet.of (by decide +kernel) (Nat.le_of_ble_eq_true rfl) ?_
  intro p e s m args below meth c C0
  refine z_loc (lo1 := [(0, .ref (zb g + a0)), (1, .int v1)]) rfl ?_
  unfold f_X2_leakBailed at h
  refine z_iload_n C0 dX2_leakBailed_0 rfl 1 rfl ?_
  obtain ⟨x5, e_x5, h⟩ := zbd_of h
  refine z_join μ 20 [] [.int x5] ?_ (fun k_J3 => ?_)
  · have h := Option.some.inj h
    obtain rfl := h
    exact z_iret C0 rfl dX2_leakBailed_20
  · have h := e_x5
    by_cases hc6 : (¬ (v1 < 0)) ∧ (¬ ((8 : Int32) ≤ v1))
    · have h := zif_t hc6 h
      refine z_join μ 10 [(0, .ref (zb g + a0)), (1, .int v1)] [] ?_ (fun k7 => ?_)
      · refine z_aload_n C0 dX2_leakBailed_10 rfl 0 rfl ?_
        refine z_getr C0 hT0 kf_2_15 zr_2_3 zx_2 (zs_2_3 hT0).1 dX2_leakBailed_11 ?_
        refine z_iload_n C0 dX2_leakBailed_14 rfl 1 rfl ?_
        obtain ⟨g4, h⟩ := zg_of h
        refine z_iald C0 (zs_2_3 hT0).2 g4 rfl dX2_leakBailed_15 ?_
        refine z_goto C0 20 dX2_leakBailed_16 (by decide) ?_
        refine z_sub (lo1 := []) [] rfl ?_
        obtain rfl := (Option.some.inj h)
        exact k_J3
      · refine z_if_lt C0 19 dX2_leakBailed_1 (by decide) (fun c1 => ?_) (fun c1 => ?_)
        · exact absurd hc6 (fun q => q.1 c1)
        · refine z_iload_n C0 dX2_leakBailed_4 rfl 1 rfl ?_
          refine z_bipush (v := (8 : Int32)) C0 dX2_leakBailed_5 (by decide) ?_
          refine z_icmp_ge C0 19 dX2_leakBailed_7 (by decide) (fun c2 => ?_) (fun c2 => ?_)
          · exact absurd hc6 (fun q => (fun q => q c2) q.2)
          · exact k7
    · have h := zif_f hc6 h
      refine z_join μ 19 [(0, .ref (zb g + a0)), (1, .int v1)] [] ?_ (fun k8 => ?_)
      · refine z_iconst (v := (-1 : Int32)) C0 dX2_leakBailed_19 (by decide) ?_
        refine z_sub (lo1 := []) [] rfl ?_
        obtain rfl := (Option.some.inj h)
        exact k_J3
      · refine z_if_lt C0 19 dX2_leakBailed_1 (by decide) (fun c1 => ?_) (fun c1 => ?_)
        · exact k8
        · refine z_iload_n C0 dX2_leakBailed_4 rfl 1 rfl ?_
          refine z_bipush (v := (8 : Int32)) C0 dX2_leakBailed_5 (by decide) ?_
          refine z_icmp_ge C0 19 dX2_leakBailed_7 (by decide) (fun c2 => ?_) (fun c2 => ?_)
          · exact k8
          · exact absurd ⟨c1, c2⟩ hc6
