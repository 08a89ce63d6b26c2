def f_X12_of (a0 : Nat) (v1 : Int32) (μ : zM) : Option (Int32) :=
  zg (zin ((μ a0 10) + v1) 4688) <|
  some (μ (a0 + 1) (((μ a0 10) + v1).toNatClampNeg))
set_option maxHeartbeats 4000000 in
set_option maxRecDepth 100000 in
theorem r_X12_of {l : Launch} {g : zL} (a0 : Nat) (v1 : Int32) (μ : zM) (hT0 : zT zNN zσ1 a0 12) {rv : Int32} (h : f_X12_of a0 v1 μ = some rv) : zMet l g yX12_of cX12_of 2 (some (.int)) 0 0 0 zNN zNN zσ1 zσ1 [.ref (zb g + a0), .int v1] μ (some (.int rv)) μ := by
  refine zMet.of (by decide +kernel) (Nat.le_of_ble_eq_true rfl) ?_
  intro p e s m args below meth c C0
  refine z_loc (lo1 := [(0, .ref (zb g + a0)), (1, .int v1)]) rfl ?_
  unfold f_X12_of at h
  refine z_aload_n C0 dX12_of_0 rfl 0 rfl ?_
  refine z_getr C0 hT0 kf_12_7 zr_12_0 zx_12 (zs_12_0 hT0).1 dX12_of_1 ?_
  refine z_aload_n C0 dX12_of_4 rfl 0 rfl ?_
  refine z_geti C0 hT0.1 hT0.2.2.1 kf_12_177 zr_12_10 dX12_of_5 ?_
  refine z_iload_n C0 dX12_of_8 rfl 1 rfl ?_
  refine z_iadd C0 dX12_of_9 ?_
  obtain ⟨g1, h⟩ := zg_of h
  refine z_iald C0 (zs_12_0 hT0).2 g1 rfl dX12_of_10 ?_
  have h := Option.some.inj h
  obtain rfl := h
  exact z_iret C0 rfl dX12_of_11
def f_X12_mourners (a0 : Nat) (μ : zM) : Option (Int32) :=
  zbd (f_X12_of a0 (14 : Int32) μ) fun r1 =>
  some r1
set_option maxHeartbeats 4000000 in
set_option maxRecDepth 100000 in
theorem r_X12_mourners {l : Launch} {g : zL} (a0 : Nat) (μ : zM) (hT0 : zT zNN zσ1 a0 12) {rv : Int32} (h : f_X12_mourners a0 μ = some rv) : zMet l g yX12_mourners cX12_mourners 1 (some (.int)) 1 0 0 zNN zNN zσ1 zσ1 [.ref (zb g + a0)] μ (some (.int rv)) μ := by
  refine zMet.of (by decide +kernel) (Nat.le_of_ble_eq_true rfl) ?_
  intro p e s m args below meth c C0
  refine z_loc (lo1 := [(0, .ref (zb g + a0))]) rfl ?_
  unfold f_X12_mourners at h
  refine z_aload_n C0 dX12_mourners_0 rfl 0 rfl ?_
  refine z_bipush (v := (14 : Int32)) C0 dX12_mourners_1 (by decide) ?_
  obtain ⟨r1, e_r1, h⟩ := zbd_of h
  refine z_callV (As := [.int (14 : Int32)]) (rest := []) C0 rfl kc_X12_of km_RX12_180 (r_X12_of (l := l) (g := g) a0 (14 : Int32) μ hT0 e_r1) hT0.1 hT0.2.2.1 rfl (by decide) rfl (Nat.le_of_ble_eq_true rfl) (Nat.le_of_ble_eq_true rfl) (Nat.le_of_ble_eq_true rfl) (Nat.le_of_ble_eq_true rfl) (Nat.le_refl _) rfl rfl dX12_mourners_3 ?_
  have h := Option.some.inj h
  obtain rfl := h
  exact z_iret C0 rfl dX12_mourners_6
def f_X12_aboard_L4 (a0 : Nat) (μ4 : zM) : Nat → Int32 → Int32 → Option (Int32)
  | 0, _, _ => none
  | n + 1, y2, y3 =>
    zbd (f_X12_mourners a0 μ4) fun r5 =>
    if r5 ≤ y3 then
      some y2
    else
      zg (zin y3 5) <|
      zl (if (μ4 (a0 + 4) (y3.toNatClampNeg)) = (-1 : Int32) then
          (0 : Int32)
        else
          ((1 : Int32) <<< (y3 &&& 31))) fun x10 =>
      zl (y2 ||| x10) fun x11 =>
      zl (y3 + (1 : Int32)) fun x12 =>
      f_X12_aboard_L4 a0 μ4 n x11 x12
def f_X12_aboard (a0 : Nat) (μ : zM) : Option (Int32) :=
  zbd (f_X12_aboard_L4 a0 μ zFU (0 : Int32) (0 : Int32)) fun x13 =>
  some x13
set_option maxHeartbeats 4000000 in
set_option maxRecDepth 100000 in
theorem r_X12_aboard_L4 {l : Launch} {g : zL} {p : Program} {e : Env} {s : State} {m : MethodId} {args : Array Value} {below : List Frame} {meth : Method} {c : Code} {Q : State → Prop} (C0 : zC p s m args meth c g cX12_aboard yX12_aboard 3 (some (.int))) (a0 : Nat) (μ4 : zM) (hU1 : zT zNN zσ1 a0 12) : ∀ (n : Nat) (y2 : Int32) (y3 : Int32) (x13 : Int32), f_X12_aboard_L4 a0 μ4 n y2 y3 = some x13 → Z p l e (zrm 2 0 0) s m args below meth c g Q 3 zNN 0 0 zσ1 μ4 38 [(1, .int x13)] [] → Z p l e (zrm 2 0 0) s m args below meth c g Q 3 zNN 0 0 zσ1 μ4 4 [(0, .ref (zb g + a0)), (1, .int y2), (2, .int y3)] [] := by
  intro n
  induction n with
  | zero =>
    intro y2 y3 x13 h kx
    rw [f_X12_aboard_L4] at h
    cases h
  | succ n ih =>
    intro y2 y3 x13 h kx
    rw [f_X12_aboard_L4] at h
    refine z_iload_n C0 dX12_aboard_4 rfl 2 rfl ?_
    refine z_aload_n C0 dX12_aboard_5 rfl 0 rfl ?_
    obtain ⟨r5, e_r5, h⟩ := zbd_of h
    refine z_callV (As := []) (rest := [.int y3]) C0 rfl kc_X12_mourners km_RX12_183 (r_X12_mourners (l := l) (g := g) a0 μ4 hU1 e_r5) hU1.1 hU1.2.2.1 rfl (by decide) rfl (Nat.le_of_ble_eq_true rfl) (Nat.le_of_ble_eq_true rfl) (Nat.le_of_ble_eq_true rfl) (Nat.le_of_ble_eq_true rfl) (Nat.le_refl _) rfl rfl dX12_aboard_6 ?_
    refine z_icmp_ge C0 38 dX12_aboard_9 (by decide) (fun c6 => ?_) (fun c6 => ?_)
    · have h := zif_t c6 h
      refine z_sub (lo1 := [(1, .int y2)]) [1] rfl ?_
      obtain rfl := (Option.some.inj h)
      exact kx
    · have h := zif_f c6 h
      refine z_iload_n C0 dX12_aboard_12 rfl 1 rfl ?_
      refine z_aload_n C0 dX12_aboard_13 rfl 0 rfl ?_
      refine z_getr C0 hU1 kf_12_20 zr_12_23 zx_12 (zs_12_23 hU1).1 dX12_aboard_14 ?_
      refine z_iload_n C0 dX12_aboard_17 rfl 2 rfl ?_
      obtain ⟨g7, h⟩ := zg_of h
      refine z_iald C0 (zs_12_23 hU1).2 g7 rfl dX12_aboard_18 ?_
      refine z_iconst (v := (-1 : Int32)) C0 dX12_aboard_19 (by decide) ?_
      obtain ⟨x10, e_x10, h⟩ := zl_of h
      refine z_join μ4 30 [(0, .ref (zb g + a0)), (2, .int y3)] [.int x10, .int y2] ?_ (fun k_J9 => ?_)
      · refine z_ior C0 dX12_aboard_30 ?_
        obtain ⟨x11, e_x11, h⟩ := zl_of h
        refine z_nm e_x11 ?_
        refine z_istore_n (lo1 := [(1, .int x11), (0, .ref (zb g + a0)), (2, .int y3)]) C0 dX12_aboard_31 rfl (by decide) rfl ?_
        obtain ⟨x12, e_x12, h⟩ := zl_of h
        refine z_iinc (lo1 := [(2, .int x12), (1, .int x11), (0, .ref (zb g + a0))]) C0 dX12_aboard_32 2 rfl (by decide) e_x12.symm (by decide) rfl ?_
        refine z_goto C0 4 dX12_aboard_35 (by decide) ?_
        refine z_sub (lo1 := [(0, .ref (zb g + a0)), (1, .int x11), (2, .int x12)]) [2, 1, 0] rfl ?_
        exact ih _ _ _ h kx
      · have h := e_x10.symm
        refine z_icmp_eq C0 29 dX12_aboard_20 (by decide) (fun c8 => ?_) (fun c8 => ?_)
        · have h := zif_t c8 h
          refine z_iconst (v := (0 : Int32)) C0 dX12_aboard_29 (by decide) ?_
          refine z_sub (lo1 := [(0, .ref (zb g + a0)), (2, .int y3)]) [0, 2] rfl ?_
          obtain rfl := h
          exact k_J9
        · have h := zif_f c8 h
          refine z_iconst (v := (1 : Int32)) C0 dX12_aboard_23 (by decide) ?_
          refine z_iload_n C0 dX12_aboard_24 rfl 2 rfl ?_
          refine z_ishl C0 dX12_aboard_25 ?_
          refine z_goto C0 30 dX12_aboard_26 (by decide) ?_
          refine z_sub (lo1 := [(0, .ref (zb g + a0)), (2, .int y3)]) [0, 2] rfl ?_
          obtain rfl := h
          exact k_J9
set_option maxHeartbeats 4000000 in
set_option maxRecDepth 100000 in
theorem r_X12_aboard {l : Launch} {g : zL} (a0 : Nat) (μ : zM) (hT0 : zT zNN zσ1 a0 12) {rv : Int32} (h : f_X12_aboard a0 μ = some rv) : zMet l g yX12_aboard cX12_aboard 3 (some (.int)) 2 0 0 zNN zNN zσ1 zσ1 [.ref (zb g + a0)] μ (some (.int rv)) μ := by
  refine zMet.of (by decide +kernel) (Nat.le_of_ble_eq_true rfl) ?_
  intro p e s m args below meth c C0
  refine z_loc (lo1 := [(0, .ref (zb g + a0))]) rfl ?_
  unfold f_X12_aboard at h
  refine z_iconst (v := (0 : Int32)) C0 dX12_aboard_0 (by decide) ?_
  refine z_istore_n (lo1 := [(1, .int (0 : Int32)), (0, .ref (zb g + a0))]) C0 dX12_aboard_1 rfl (by decide) rfl ?_
  refine z_iconst (v := (0 : Int32)) C0 dX12_aboard_2 (by decide) ?_
  refine z_istore_n (lo1 := [(2, .int (0 : Int32)), (1, .int (0 : Int32)), (0, .ref (zb g + a0))]) C0 dX12_aboard_3 rfl (by decide) rfl ?_
  refine z_sub (lo1 := [(0, .ref (zb g + a0)), (1, .int (0 : Int32)), (2, .int (0 : Int32))]) [2, 1, 0] rfl ?_
  obtain ⟨x13, e_x13, h⟩ := zbd_of h
  refine r_X12_aboard_L4 C0 a0 μ hT0 zFU (0 : Int32) (0 : Int32) x13 e_x13 ?_
  refine z_iload_n C0 dX12_aboard_38 rfl 0 rfl ?_
  have h := Option.some.inj h
  obtain rfl := h
  exact z_iret C0 rfl dX12_aboard_39
def f_X12_adds (a0 : Nat) (v1 : Int32) (v2 : Int32) (v3 : Int32) (v4 : Int32) (μ : zM) : Option (zM) :=
  if (μ (a0 + 3) 0) < v1 then
    zg (zin ((1 : Int32) + ((3 : Int32) * (μ (a0 + 3) 0))) 121) <|
    zl (zup μ (a0 + 3) (((1 : Int32) + ((3 : Int32) * (μ (a0 + 3) 0))).toNatClampNeg) v2) fun μ3 =>
    zg (zin ((2 : Int32) + ((3 : Int32) * (μ3 (a0 + 3) 0))) 121) <|
    zl (zup μ3 (a0 + 3) (((2 : Int32) + ((3 : Int32) * (μ3 (a0 + 3) 0))).toNatClampNeg) v3) fun μ5 =>
    zg (zin ((3 : Int32) + ((3 : Int32) * (μ5 (a0 + 3) 0))) 121) <|
    zl (zup μ5 (a0 + 3) (((3 : Int32) + ((3 : Int32) * (μ5 (a0 + 3) 0))).toNatClampNeg) v4) fun μ7 =>
    zl (zup μ7 (a0 + 3) 0 ((μ7 (a0 + 3) 0) + (1 : Int32))) fun μ8 =>
    some μ8
  else
    some μ
set_option maxHeartbeats 4000000 in
set_option maxRecDepth 100000 in
theorem r_X12_adds {l : Launch} {g : zL} (a0 : Nat) (v1 : Int32) (v2 : Int32) (v3 : Int32) (v4 : Int32) (μ : zM) (hT0 : zT zNN zσ1 a0 12) {μr : zM} (h : f_X12_adds a0 v1 v2 v3 v4 μ = some μr) : zMet l g yX12_adds cX12_adds 5 none 0 0 0 zNN zNN zσ1 zσ1 [.ref (zb g + a0), .int v1, .int v2, .int v3, .int v4] μ none μr := by
  refine zMet.of (by decide +kernel) (Nat.le_of_ble_eq_true rfl) ?_
  intro p e s m args below meth c C0
  refine z_loc (lo1 := [(0, .ref (zb g + a0)), (1, .int v1), (2, .int v2), (3, .int v3), (4, .int v4)]) rfl ?_
  unfold f_X12_adds at h
  refine z_aload_n C0 dX12_adds_0 rfl 0 rfl ?_
  refine z_getr C0 hT0 kf_12_17 zr_12_9 zx_12 (zs_12_9 hT0).1 dX12_adds_1 ?_
  refine z_iconst (v := (0 : Int32)) C0 dX12_adds_4 (by decide) ?_
  refine z_iald (j := 0) C0 (zs_12_9 hT0).2 (by decide : zin (0 : Int32) 121 = true) (by decide) dX12_adds_5 ?_
  refine z_iload_n C0 dX12_adds_6 rfl 1 rfl ?_
  refine z_icmp_lt C0 11 dX12_adds_7 (by decide) (fun c1 => ?_) (fun c1 => ?_)
  · have h := zif_t c1 h
    refine z_aload_n C0 dX12_adds_11 rfl 0 rfl ?_
    refine z_getr C0 hT0 kf_12_17 zr_12_9 zx_12 (zs_12_9 hT0).1 dX12_adds_12 ?_
    refine z_iconst (v := (1 : Int32)) C0 dX12_adds_15 (by decide) ?_
    refine z_iconst (v := (3 : Int32)) C0 dX12_adds_16 (by decide) ?_
    refine z_aload_n C0 dX12_adds_17 rfl 0 rfl ?_
    refine z_getr C0 hT0 kf_12_17 zr_12_9 zx_12 (zs_12_9 hT0).1 dX12_adds_18 ?_
    refine z_iconst (v := (0 : Int32)) C0 dX12_adds_21 (by decide) ?_
    refine z_iald (j := 0) C0 (zs_12_9 hT0).2 (by decide : zin (0 : Int32) 121 = true) (by decide) dX12_adds_22 ?_
    refine z_imul C0 dX12_adds_23 ?_
    refine z_iadd C0 dX12_adds_24 ?_
    refine z_iload_n C0 dX12_adds_25 rfl 2 rfl ?_
    obtain ⟨g2, h⟩ := zg_of h
    obtain ⟨μ3, e_μ3, h⟩ := zl_of h
    refine z_iast C0 (zs_12_9 hT0).2 g2 rfl e_μ3 dX12_adds_26 ?_
    refine z_aload_n C0 dX12_adds_27 rfl 0 rfl ?_
    refine z_getr C0 hT0 kf_12_17 zr_12_9 zx_12 (zs_12_9 hT0).1 dX12_adds_28 ?_
    refine z_iconst (v := (2 : Int32)) C0 dX12_adds_31 (by decide) ?_
    refine z_iconst (v := (3 : Int32)) C0 dX12_adds_32 (by decide) ?_
    refine z_aload_n C0 dX12_adds_33 rfl 0 rfl ?_
    refine z_getr C0 hT0 kf_12_17 zr_12_9 zx_12 (zs_12_9 hT0).1 dX12_adds_34 ?_
    refine z_iconst (v := (0 : Int32)) C0 dX12_adds_37 (by decide) ?_
    refine z_iald (j := 0) C0 (zs_12_9 hT0).2 (by decide : zin (0 : Int32) 121 = true) (by decide) dX12_adds_38 ?_
    refine z_imul C0 dX12_adds_39 ?_
    refine z_iadd C0 dX12_adds_40 ?_
    refine z_iload_n C0 dX12_adds_41 rfl 3 rfl ?_
    obtain ⟨g4, h⟩ := zg_of h
    obtain ⟨μ5, e_μ5, h⟩ := zl_of h
    refine z_iast C0 (zs_12_9 hT0).2 g4 rfl e_μ5 dX12_adds_42 ?_
    refine z_aload_n C0 dX12_adds_43 rfl 0 rfl ?_
    refine z_getr C0 hT0 kf_12_17 zr_12_9 zx_12 (zs_12_9 hT0).1 dX12_adds_44 ?_
    refine z_iconst (v := (3 : Int32)) C0 dX12_adds_47 (by decide) ?_
    refine z_iconst (v := (3 : Int32)) C0 dX12_adds_48 (by decide) ?_
    refine z_aload_n C0 dX12_adds_49 rfl 0 rfl ?_
    refine z_getr C0 hT0 kf_12_17 zr_12_9 zx_12 (zs_12_9 hT0).1 dX12_adds_50 ?_
    refine z_iconst (v := (0 : Int32)) C0 dX12_adds_53 (by decide) ?_
    refine z_iald (j := 0) C0 (zs_12_9 hT0).2 (by decide : zin (0 : Int32) 121 = true) (by decide) dX12_adds_54 ?_
    refine z_imul C0 dX12_adds_55 ?_
    refine z_iadd C0 dX12_adds_56 ?_
    refine z_iload C0 dX12_adds_57 4 rfl ?_
    obtain ⟨g6, h⟩ := zg_of h
    obtain ⟨μ7, e_μ7, h⟩ := zl_of h
    refine z_iast C0 (zs_12_9 hT0).2 g6 rfl e_μ7 dX12_adds_59 ?_
    refine z_aload_n C0 dX12_adds_60 rfl 0 rfl ?_
    refine z_getr C0 hT0 kf_12_17 zr_12_9 zx_12 (zs_12_9 hT0).1 dX12_adds_61 ?_
    refine z_iconst (v := (0 : Int32)) C0 dX12_adds_64 (by decide) ?_
    refine z_dup2 C0 dX12_adds_65 rfl rfl ?_
    refine z_iald (j := 0) C0 (zs_12_9 hT0).2 (by decide : zin (0 : Int32) 121 = true) (by decide) dX12_adds_66 ?_
    refine z_iconst (v := (1 : Int32)) C0 dX12_adds_67 (by decide) ?_
    refine z_iadd C0 dX12_adds_68 ?_
    obtain ⟨μ8, e_μ8, h⟩ := zl_of h
    refine z_iast (j := 0) C0 (zs_12_9 hT0).2 (by decide : zin (0 : Int32) 121 = true) (by decide) e_μ8 dX12_adds_69 ?_
    have h := Option.some.inj h
    obtain rfl := h
    exact z_vret C0 rfl dX12_adds_70
  · have h := zif_f c1 h
    have h := Option.some.inj h
    obtain rfl := h
    exact z_vret C0 rfl dX12_adds_10
def f_X12_adds0_L4 (a0 : Nat) (v1 : Int32) (μ4 : zM) : Nat → Int32 → Int32 → Option (Int32)
  | 0, _, _ => none
  | n + 1, y2, y3 =>
    if (μ4 a0 33) ≤ y3 then
      some y2
    else
      zbd (zbd (if ¬ y2 = 0 then
            some false
          else
            zg (zin y3 5) <|
            if ¬ (μ4 (a0 + 12) (y3.toNatClampNeg)) = v1 then
              some true
            else
              some false) fun b14 =>
        if b14 = true then
          some (0 : Int32)
        else
          some (1 : Int32)) fun x16 =>
      zl (y3 + (1 : Int32)) fun x17 =>
      f_X12_adds0_L4 a0 v1 μ4 n x16 x17
def f_X12_adds0 (a0 : Nat) (v1 : Int32) (μ : zM) : Option (zM) :=
  zbd (f_X12_adds0_L4 a0 v1 μ zFU (0 : Int32) (0 : Int32)) fun x18 =>
  if x18 = 0 then
    zg (zin (μ a0 33) 5) <|
    zl (zup μ (a0 + 12) ((μ a0 33).toNatClampNeg) v1) fun μ21 =>
    zl (zup μ21 a0 33 ((μ21 a0 33) + (1 : Int32))) fun μ22 =>
    some μ22
  else
    some μ
set_option maxHeartbeats 4000000 in
set_option maxRecDepth 100000 in
theorem r_X12_adds0_L4 {l : Launch} {g : zL} {p : Program} {e : Env} {s : State} {m : MethodId} {args : Array Value} {below : List Frame} {meth : Method} {c : Code} {Q : State → Prop} (C0 : zC p s m args meth c g cX12_adds0 yX12_adds0 4 none) (a0 : Nat) (v1 : Int32) (μ4 : zM) (hU1 : zT zNN zσ1 a0 12) : ∀ (n : Nat) (y2 : Int32) (y3 : Int32) (x18 : Int32), f_X12_adds0_L4 a0 v1 μ4 n y2 y3 = some x18 → Z p l e (zrm 0 0 0) s m args below meth c g Q 4 zNN 0 0 zσ1 μ4 38 [(0, .ref (zb g + a0)), (1, .int v1), (2, .int x18)] [] → Z p l e (zrm 0 0 0) s m args below meth c g Q 4 zNN 0 0 zσ1 μ4 4 [(0, .ref (zb g + a0)), (1, .int v1), (2, .int y2), (3, .int y3)] [] := by
  intro n
  induction n with
  | zero =>
    intro y2 y3 x18 h kx
    rw [f_X12_adds0_L4] at h
    cases h
  | succ n ih =>
    intro y2 y3 x18 h kx
    rw [f_X12_adds0_L4] at h
    refine z_iload_n C0 dX12_adds0_4 rfl 3 rfl ?_
    refine z_aload_n C0 dX12_adds0_5 rfl 0 rfl ?_
    refine z_geti C0 hU1.1 hU1.2.2.1 kf_12_375 zr_12_33 dX12_adds0_6 ?_
    refine z_icmp_ge C0 38 dX12_adds0_9 (by decide) (fun c5 => ?_) (fun c5 => ?_)
    · have h := zif_t c5 h
      refine z_sub (lo1 := [(0, .ref (zb g + a0)), (1, .int v1), (2, .int y2)]) [0, 1, 2] rfl ?_
      obtain rfl := (Option.some.inj h)
      exact kx
    · have h := zif_f c5 h
      refine z_iload_n C0 dX12_adds0_12 rfl 2 rfl ?_
      obtain ⟨x16, e_x16, h⟩ := zbd_of h
      refine z_join μ4 31 [(0, .ref (zb g + a0)), (1, .int v1), (3, .int y3)] [.int x16] ?_ (fun k_J15 => ?_)
      · refine z_istore_n (lo1 := [(2, .int x16), (0, .ref (zb g + a0)), (1, .int v1), (3, .int y3)]) C0 dX12_adds0_31 rfl (by decide) rfl ?_
        obtain ⟨x17, e_x17, h⟩ := zl_of h
        refine z_iinc (lo1 := [(3, .int x17), (2, .int x16), (0, .ref (zb g + a0)), (1, .int v1)]) C0 dX12_adds0_32 3 rfl (by decide) e_x17.symm (by decide) rfl ?_
        refine z_goto C0 4 dX12_adds0_35 (by decide) ?_
        refine z_sub (lo1 := [(0, .ref (zb g + a0)), (1, .int v1), (2, .int x16), (3, .int x17)]) [2, 3, 1, 0] rfl ?_
        exact ih _ _ _ h kx
      · have h := e_x16
        obtain ⟨b14, e_b14, h⟩ := zbd_of h
        refine z_joinb b14 μ4 30 26 [(0, .ref (zb g + a0)), (1, .int v1), (2, .int y2), (3, .int y3)] [] (fun z25 => ?_) (fun z25 => ?_) (fun k23 k24 => ?_)
        · have h := zif_t z25 h
          refine z_iconst (v := (0 : Int32)) C0 dX12_adds0_30 (by decide) ?_
          refine z_sub (lo1 := [(0, .ref (zb g + a0)), (1, .int v1), (3, .int y3)]) [0, 1, 3] rfl ?_
          obtain rfl := (Option.some.inj h)
          exact k_J15
        · have h := zif_f (fun q => Bool.noConfusion (z25.symm.trans q)) h
          refine z_iconst (v := (1 : Int32)) C0 dX12_adds0_26 (by decide) ?_
          refine z_goto C0 31 dX12_adds0_27 (by decide) ?_
          refine z_sub (lo1 := [(0, .ref (zb g + a0)), (1, .int v1), (3, .int y3)]) [0, 1, 3] rfl ?_
          obtain rfl := (Option.some.inj h)
          exact k_J15
        · have h := e_b14
          refine z_if_ne C0 26 dX12_adds0_13 (by decide) (fun c10 => ?_) (fun c10 => ?_)
          · have h := zif_t c10 h
            exact k24 (Option.some.inj h).symm
          · have h := zif_f (fun q => q c10) h
            refine z_aload_n C0 dX12_adds0_16 rfl 0 rfl ?_
            refine z_getr C0 hU1 kf_12_44 zr_12_34 zx_12 (zs_12_34 hU1).1 dX12_adds0_17 ?_
            refine z_iload_n C0 dX12_adds0_20 rfl 3 rfl ?_
            obtain ⟨g12, h⟩ := zg_of h
            refine z_iald C0 (zs_12_34 hU1).2 g12 rfl dX12_adds0_21 ?_
            refine z_iload_n C0 dX12_adds0_22 rfl 1 rfl ?_
            refine z_icmp_ne C0 30 dX12_adds0_23 (by decide) (fun c13 => ?_) (fun c13 => ?_)
            · have h := zif_t c13 h
              exact k23 (Option.some.inj h).symm
            · have h := zif_f (fun q => q c13) h
              exact k24 (Option.some.inj h).symm
set_option maxHeartbeats 4000000 in
set_option maxRecDepth 100000 in
theorem r_X12_adds0 {l : Launch} {g : zL} (a0 : Nat) (v1 : Int32) (μ : zM) (hT0 : zT zNN zσ1 a0 12) {μr : zM} (h : f_X12_adds0 a0 v1 μ = some μr) : zMet l g yX12_adds0 cX12_adds0 4 none 0 0 0 zNN zNN zσ1 zσ1 [.ref (zb g + a0), .int v1] μ none μr := by
  refine zMet.of (by decide +kernel) (Nat.le_of_ble_eq_true rfl) ?_
  intro p e s m args below meth c C0
  refine z_loc (lo1 := [(0, .ref (zb g + a0)), (1, .int v1)]) rfl ?_
  unfold f_X12_adds0 at h
  refine z_iconst (v := (0 : Int32)) C0 dX12_adds0_0 (by decide) ?_
  refine z_istore_n (lo1 := [(2, .int (0 : Int32)), (0, .ref (zb g + a0)), (1, .int v1)]) C0 dX12_adds0_1 rfl (by decide) rfl ?_
  refine z_iconst (v := (0 : Int32)) C0 dX12_adds0_2 (by decide) ?_
  refine z_istore_n (lo1 := [(3, .int (0 : Int32)), (2, .int (0 : Int32)), (0, .ref (zb g + a0)), (1, .int v1)]) C0 dX12_adds0_3 rfl (by decide) rfl ?_
  refine z_sub (lo1 := [(0, .ref (zb g + a0)), (1, .int v1), (2, .int (0 : Int32)), (3, .int (0 : Int32))]) [2, 3, 1, 0] rfl ?_
  obtain ⟨x18, e_x18, h⟩ := zbd_of h
  refine r_X12_adds0_L4 C0 a0 v1 μ hT0 zFU (0 : Int32) (0 : Int32) x18 e_x18 ?_
  refine z_iload_n C0 dX12_adds0_38 rfl 2 rfl ?_
  refine z_if_eq C0 43 dX12_adds0_39 (by decide) (fun c19 => ?_) (fun c19 => ?_)
  · have h := zif_t c19 h
    refine z_aload_n C0 dX12_adds0_43 rfl 0 rfl ?_
    refine z_getr C0 hT0 kf_12_44 zr_12_34 zx_12 (zs_12_34 hT0).1 dX12_adds0_44 ?_
    refine z_aload_n C0 dX12_adds0_47 rfl 0 rfl ?_
    refine z_geti C0 hT0.1 hT0.2.2.1 kf_12_375 zr_12_33 dX12_adds0_48 ?_
    refine z_iload_n C0 dX12_adds0_51 rfl 1 rfl ?_
    obtain ⟨g20, h⟩ := zg_of h
    obtain ⟨μ21, e_μ21, h⟩ := zl_of h
    refine z_iast C0 (zs_12_34 hT0).2 g20 rfl e_μ21 dX12_adds0_52 ?_
    refine z_aload_n C0 dX12_adds0_53 rfl 0 rfl ?_
    refine z_dup C0 dX12_adds0_54 rfl ?_
    refine z_geti C0 hT0.1 hT0.2.2.1 kf_12_375 zr_12_33 dX12_adds0_55 ?_
    refine z_iconst (v := (1 : Int32)) C0 dX12_adds0_58 (by decide) ?_
    refine z_iadd C0 dX12_adds0_59 ?_
    obtain ⟨μ22, e_μ22, h⟩ := zl_of h
    refine z_puti C0 hT0.1 hT0.2.2.1 kf_12_375 zp_12_33 zr_12_33 e_μ22 dX12_adds0_60 ?_
    have h := Option.some.inj h
    obtain rfl := h
    exact z_vret C0 rfl dX12_adds0_63
  · have h := zif_f c19 h
    have h := Option.some.inj h
    obtain rfl := h
    exact z_vret C0 rfl dX12_adds0_42
def f_X12_byteAt (a0 : Nat) (v1 : Int32) (μ : zM) : Option (Int32) :=
  zbd (if (μ a0 2) ≤ v1 then
      some (-1 : Int32)
    else
      zg (zin ((10 : Int32) + v1) 4688) <|
      some (μ (a0 + 1) (((10 : Int32) + v1).toNatClampNeg))) fun x4 =>
  some x4
set_option maxHeartbeats 4000000 in
set_option maxRecDepth 100000 in
theorem r_X12_byteAt {l : Launch} {g : zL} (a0 : Nat) (v1 : Int32) (μ : zM) (hT0 : zT zNN zσ1 a0 12) {rv : Int32} (h : f_X12_byteAt a0 v1 μ = some rv) : zMet l g yX12_byteAt cX12_byteAt 2 (some (.int)) 0 0 0 zNN zNN zσ1 zσ1 [.ref (zb g + a0), .int v1] μ (some (.int rv)) μ := by
  refine zMet.of (by decide +kernel) (Nat.le_of_ble_eq_true rfl) ?_
  intro p e s m args below meth c C0
  refine z_loc (lo1 := [(0, .ref (zb g + a0)), (1, .int v1)]) rfl ?_
  unfold f_X12_byteAt at h
  refine z_iload_n C0 dX12_byteAt_0 rfl 1 rfl ?_
  refine z_aload_n C0 dX12_byteAt_1 rfl 0 rfl ?_
  refine z_geti C0 hT0.1 hT0.2.2.1 kf_12_51 zr_12_2 dX12_byteAt_2 ?_
  obtain ⟨x4, e_x4, h⟩ := zbd_of h
  refine z_join μ 21 [] [.int x4] ?_ (fun k_J2 => ?_)
  · have h := Option.some.inj h
    obtain rfl := h
    exact z_iret C0 rfl dX12_byteAt_21
  · have h := e_x4
    refine z_icmp_ge C0 20 dX12_byteAt_5 (by decide) (fun c1 => ?_) (fun c1 => ?_)
    · have h := zif_t c1 h
      refine z_iconst (v := (-1 : Int32)) C0 dX12_byteAt_20 (by decide) ?_
      refine z_sub (lo1 := []) [] rfl ?_
      obtain rfl := (Option.some.inj h)
      exact k_J2
    · have h := zif_f c1 h
      refine z_aload_n C0 dX12_byteAt_8 rfl 0 rfl ?_
      refine z_getr C0 hT0 kf_12_7 zr_12_0 zx_12 (zs_12_0 hT0).1 dX12_byteAt_9 ?_
      refine z_bipush (v := (10 : Int32)) C0 dX12_byteAt_12 (by decide) ?_
      refine z_iload_n C0 dX12_byteAt_14 rfl 1 rfl ?_
      refine z_iadd C0 dX12_byteAt_15 ?_
      obtain ⟨g3, h⟩ := zg_of h
      refine z_iald C0 (zs_12_0 hT0).2 g3 rfl dX12_byteAt_16 ?_
      refine z_goto C0 21 dX12_byteAt_17 (by decide) ?_
      refine z_sub (lo1 := []) [] rfl ?_
      obtain rfl := (Option.some.inj h)
      exact k_J2
def f_X12_isLetter (v0 : Int32) : Int32 :=
  zl (if (¬ (v0 < (97 : Int32))) ∧ (¬ ((122 : Int32) < v0)) then
      (1 : Int32)
    else
      (0 : Int32)) fun x4 =>
  x4
set_option maxHeartbeats 4000000 in
set_option maxRecDepth 100000 in
theorem r_X12_isLetter {l : Launch} {g : zL} (v0 : Int32) {μ : zM}  {rv : Int32} (h : f_X12_isLetter v0 = rv) : zMet l g yX12_isLetter cX12_isLetter 1 (some (.boolean)) 0 0 0 zNN zNN zσ1 zσ1 [.int v0] μ (some (.int rv)) μ := by
  refine zMet.of (by decide +kernel) (Nat.le_of_ble_eq_true rfl) ?_
  intro p e s m args below meth c C0
  refine z_loc (lo1 := [(0, .int v0)]) rfl ?_
  unfold f_X12_isLetter at h
  refine z_iload_n C0 dX12_isLetter_0 rfl 0 rfl ?_
  refine z_bipush (v := (97 : Int32)) C0 dX12_isLetter_1 (by decide) ?_
  obtain ⟨x4, e_x4, h⟩ := zl_of h
  refine z_join μ 17 [] [.int x4] ?_ (fun k_J3 => ?_)
  · skip
    obtain rfl := h
    exact z_zret C0 rfl (by rw [e_x4]; repeat' split <;> rfl) dX12_isLetter_17
  · have h := e_x4.symm
    by_cases hc5 : (¬ (v0 < (97 : Int32))) ∧ (¬ ((122 : Int32) < v0))
    · have h := zif_t hc5 h
      refine z_join μ 12 [(0, .int v0)] [] ?_ (fun k6 => ?_)
      · refine z_iconst (v := (1 : Int32)) C0 dX12_isLetter_12 (by decide) ?_
        refine z_goto C0 17 dX12_isLetter_13 (by decide) ?_
        refine z_sub (lo1 := []) [] rfl ?_
        obtain rfl := h
        exact k_J3
      · refine z_icmp_lt C0 16 dX12_isLetter_3 (by decide) (fun c1 => ?_) (fun c1 => ?_)
        · exact absurd hc5 (fun q => q.1 c1)
        · refine z_iload_n C0 dX12_isLetter_6 rfl 0 rfl ?_
          refine z_bipush (v := (122 : Int32)) C0 dX12_isLetter_7 (by decide) ?_
          refine z_icmp_gt C0 16 dX12_isLetter_9 (by decide) (fun c2 => ?_) (fun c2 => ?_)
          · exact absurd hc5 (fun q => (fun q => q c2) q.2)
          · exact k6
    · have h := zif_f hc5 h
      refine z_join μ 16 [(0, .int v0)] [] ?_ (fun k7 => ?_)
      · refine z_iconst (v := (0 : Int32)) C0 dX12_isLetter_16 (by decide) ?_
        refine z_sub (lo1 := []) [] rfl ?_
        obtain rfl := h
        exact k_J3
      · refine z_icmp_lt C0 16 dX12_isLetter_3 (by decide) (fun c1 => ?_) (fun c1 => ?_)
        · exact k7
        · refine z_iload_n C0 dX12_isLetter_6 rfl 0 rfl ?_
          refine z_bipush (v := (122 : Int32)) C0 dX12_isLetter_7 (by decide) ?_
          refine z_icmp_gt C0 16 dX12_isLetter_9 (by decide) (fun c2 => ?_) (fun c2 => ?_)
          · exact k7
          · exact absurd ⟨c1, c2⟩ hc5
def f_X12_four (v0 : Int32) (v1 : Int32) (v2 : Int32) (v3 : Int32) : Int64 :=
  (((((((v0 * (32 : Int32)) + v1) * (32 : Int32)) + v2) * (32 : Int32)) + v3).toInt64)
set_option maxHeartbeats 4000000 in
set_option maxRecDepth 100000 in
theorem r_X12_four {l : Launch} {g : zL} (v0 : Int32) (v1 : Int32) (v2 : Int32) (v3 : Int32) {μ : zM}  {rv : Int64} (h : f_X12_four v0 v1 v2 v3 = rv) : zMet l g yX12_four cX12_four 4 (some (.long)) 0 0 0 zNN zNN zσ1 zσ1 [.int v0, .int v1, .int v2, .int v3] μ (some (.long rv)) μ := by
  refine zMet.of (by decide +kernel) (Nat.le_of_ble_eq_true rfl) ?_
  intro p e s m args below meth c C0
  refine z_loc (lo1 := [(0, .int v0), (1, .int v1), (2, .int v2), (3, .int v3)]) rfl ?_
  unfold f_X12_four at h
  refine z_iload_n C0 dX12_four_0 rfl 0 rfl ?_
  refine z_bipush (v := (32 : Int32)) C0 dX12_four_1 (by decide) ?_
  refine z_imul C0 dX12_four_3 ?_
  refine z_iload_n C0 dX12_four_4 rfl 1 rfl ?_
  refine z_iadd C0 dX12_four_5 ?_
  refine z_bipush (v := (32 : Int32)) C0 dX12_four_6 (by decide) ?_
  refine z_imul C0 dX12_four_8 ?_
  refine z_iload_n C0 dX12_four_9 rfl 2 rfl ?_
  refine z_iadd C0 dX12_four_10 ?_
  refine z_bipush (v := (32 : Int32)) C0 dX12_four_11 (by decide) ?_
  refine z_imul C0 dX12_four_13 ?_
  refine z_iload_n C0 dX12_four_14 rfl 3 rfl ?_
  refine z_iadd C0 dX12_four_15 ?_
  refine z_i2l C0 dX12_four_16 ?_
  skip
  obtain rfl := h
  exact z_lret C0 rfl dX12_four_17
def f_X12_eight (v0 : Int32) (v1 : Int32) (v2 : Int32) (v3 : Int32) (v4 : Int32) (v5 : Int32) (v6 : Int32) (v7 : Int32) : Int64 :=
  (((f_X12_four v0 v1 v2 v3) * (1048576 : Int64)) + (f_X12_four v4 v5 v6 v7))
set_option maxHeartbeats 4000000 in
set_option maxRecDepth 100000 in
theorem r_X12_eight {l : Launch} {g : zL} (v0 : Int32) (v1 : Int32) (v2 : Int32) (v3 : Int32) (v4 : Int32) (v5 : Int32) (v6 : Int32) (v7 : Int32) {μ : zM}  {rv : Int64} (h : f_X12_eight v0 v1 v2 v3 v4 v5 v6 v7 = rv) : zMet l g yX12_eight cX12_eight 8 (some (.long)) 1 0 0 zNN zNN zσ1 zσ1 [.int v0, .int v1, .int v2, .int v3, .int v4, .int v5, .int v6, .int v7] μ (some (.long rv)) μ := by
  refine zMet.of (by decide +kernel) (Nat.le_of_ble_eq_true rfl) ?_
  intro p e s m args below meth c C0
  refine z_loc (lo1 := [(0, .int v0), (1, .int v1), (2, .int v2), (3, .int v3), (4, .int v4), (5, .int v5), (6, .int v6), (7, .int v7)]) rfl ?_
  unfold f_X12_eight at h
  refine z_iload_n C0 dX12_eight_0 rfl 0 rfl ?_
  refine z_iload_n C0 dX12_eight_1 rfl 1 rfl ?_
  refine z_iload_n C0 dX12_eight_2 rfl 2 rfl ?_
  refine z_iload_n C0 dX12_eight_3 rfl 3 rfl ?_
  refine z_callS (As := [.int v0, .int v1, .int v2, .int v3]) (rest := []) C0 rfl kc_X12_four km_RX12_55 (r_X12_four (l := l) (g := g) (μ := μ) v0 v1 v2 v3 rfl) rfl (Nat.le_of_ble_eq_true rfl) (Nat.le_of_ble_eq_true rfl) (Nat.le_of_ble_eq_true rfl) (Nat.le_of_ble_eq_true rfl) (Nat.le_refl _) rfl rfl dX12_eight_4 ?_
  refine z_ldc2 C0 dX12_eight_7 kk_RX12_59 ?_
  refine z_lmul C0 dX12_eight_10 ?_
  refine z_iload C0 dX12_eight_11 4 rfl ?_
  refine z_iload C0 dX12_eight_13 5 rfl ?_
  refine z_iload C0 dX12_eight_15 6 rfl ?_
  refine z_iload C0 dX12_eight_17 7 rfl ?_
  refine z_callS (As := [.int v4, .int v5, .int v6, .int v7]) (rest := [.long ((f_X12_four v0 v1 v2 v3) * (1048576 : Int64))]) C0 rfl kc_X12_four km_RX12_55 (r_X12_four (l := l) (g := g) (μ := μ) v4 v5 v6 v7 rfl) rfl (Nat.le_of_ble_eq_true rfl) (Nat.le_of_ble_eq_true rfl) (Nat.le_of_ble_eq_true rfl) (Nat.le_of_ble_eq_true rfl) (Nat.le_refl _) rfl rfl dX12_eight_19 ?_
  refine z_ladd C0 dX12_eight_22 ?_
  skip
  obtain rfl := h
  exact z_lret C0 rfl dX12_eight_23
def f_X12_otherWord (v0 : Int64) : Int32 :=
  if ¬ (lg_cmp v0 (f_X12_eight (0 : Int32) (0 : Int32) (0 : Int32) (19 : Int32) (20 : Int32) (1 : Int32) (14 : Int32) (4 : Int32))) = 0 then
    if ¬ (lg_cmp v0 (f_X12_eight (0 : Int32) (0 : Int32) (0 : Int32) (12 : Int32) (5 : Int32) (1 : Int32) (22 : Int32) (5 : Int32))) = 0 then
      if ¬ (lg_cmp v0 (f_X12_four (23 : Int32) (9 : Int32) (14 : Int32) (4 : Int32))) = 0 then
        if ¬ (lg_cmp v0 (f_X12_four (3 : Int32) (1 : Int32) (12 : Int32) (13 : Int32))) = 0 then
          if ¬ (lg_cmp v0 (f_X12_eight (0 : Int32) (0 : Int32) (0 : Int32) (6 : Int32) (18 : Int32) (15 : Int32) (19 : Int32) (20 : Int32))) = 0 then
            if ¬ (lg_cmp v0 (f_X12_four (20 : Int32) (8 : Int32) (1 : Int32) (23 : Int32))) = 0 then
              if ¬ (lg_cmp v0 (f_X12_four (13 : Int32) (15 : Int32) (15 : Int32) (18 : Int32))) = 0 then
                if ¬ (lg_cmp v0 (f_X12_four (3 : Int32) (1 : Int32) (19 : Int32) (20 : Int32))) = 0 then
                  if ¬ (lg_cmp v0 (f_X12_four (2 : Int32) (1 : Int32) (9 : Int32) (12 : Int32))) = 0 then
                    if ¬ (lg_cmp v0 (f_X12_eight (0 : Int32) (0 : Int32) (0 : Int32) (8 : Int32) (15 : Int32) (21 : Int32) (18 : Int32) (19 : Int32))) = 0 then
                      if ¬ (lg_cmp v0 (f_X12_four (0 : Int32) (12 : Int32) (1 : Int32) (25 : Int32))) = 0 then
                        if ¬ (lg_cmp v0 (f_X12_four (4 : Int32) (5 : Int32) (1 : Int32) (4 : Int32))) = 0 then
                          if ¬ (lg_cmp v0 (f_X12_four (12 : Int32) (9 : Int32) (19 : Int32) (20 : Int32))) = 0 then
                            if ¬ (lg_cmp v0 (f_X12_eight (0 : Int32) (0 : Int32) (0 : Int32) (20 : Int32) (15 : Int32) (21 : Int32) (3 : Int32) (8 : Int32))) = 0 then
                              if ¬ (lg_cmp v0 (f_X12_eight (0 : Int32) (0 : Int32) (0 : Int32) (23 : Int32) (1 : Int32) (20 : Int32) (5 : Int32) (18 : Int32))) = 0 then
                                if ¬ (lg_cmp v0 (f_X12_four (0 : Int32) (15 : Int32) (4 : Int32) (4 : Int32))) = 0 then
                                  zl (if ¬ (lg_cmp v0 (f_X12_four (13 : Int32) (15 : Int32) (19 : Int32) (20 : Int32))) = 0 then
                                      (99 : Int32)
                                    else
                                      (29 : Int32)) fun x155 =>
                                  x155
                                else
                                  (28 : Int32)
                              else
                                (27 : Int32)
                            else
                              (26 : Int32)
                          else
                            (25 : Int32)
                        else
                          (24 : Int32)
                      else
                        (23 : Int32)
                    else
                      (22 : Int32)
                  else
                    (21 : Int32)
                else
                  (20 : Int32)
              else
                (19 : Int32)
            else
              (18 : Int32)
          else
            (17 : Int32)
        else
          (16 : Int32)
      else
        (15 : Int32)
    else
      (14 : Int32)
  else
    (13 : Int32)
set_option maxHeartbeats 4000000 in
set_option maxRecDepth 100000 in
theorem r_X12_otherWord {l : Launch} {g : zL} (v0 : Int64) {μ : zM}  {rv : Int32} (h : f_X12_otherWord v0 = rv) : zMet l g yX12_otherWord cX12_otherWord 2 (some (.int)) 2 0 0 zNN zNN zσ1 zσ1 [.long v0] μ (some (.int rv)) μ := by
  refine zMet.of (by decide +kernel) (Nat.le_of_ble_eq_true rfl) ?_
  intro p e s m args below meth c C0
  refine z_loc (lo1 := [(0, .long v0)]) rfl ?_
  unfold f_X12_otherWord at h
  refine z_lload_n C0 dX12_otherWord_0 rfl 0 rfl ?_
  refine z_iconst (v := (0 : Int32)) C0 dX12_otherWord_1 (by decide) ?_
  refine z_iconst (v := (0 : Int32)) C0 dX12_otherWord_2 (by decide) ?_
  refine z_iconst (v := (0 : Int32)) C0 dX12_otherWord_3 (by decide) ?_
  refine z_bipush (v := (19 : Int32)) C0 dX12_otherWord_4 (by decide) ?_
  refine z_bipush (v := (20 : Int32)) C0 dX12_otherWord_6 (by decide) ?_
  refine z_iconst (v := (1 : Int32)) C0 dX12_otherWord_8 (by decide) ?_
  refine z_bipush (v := (14 : Int32)) C0 dX12_otherWord_9 (by decide) ?_
  refine z_iconst (v := (4 : Int32)) C0 dX12_otherWord_11 (by decide) ?_
  refine z_callS (As := [.int (0 : Int32), .int (0 : Int32), .int (0 : Int32), .int (19 : Int32), .int (20 : Int32), .int (1 : Int32), .int (14 : Int32), .int (4 : Int32)]) (rest := [.long v0]) C0 rfl kc_X12_eight km_RX12_61 (r_X12_eight (l := l) (g := g) (μ := μ) (0 : Int32) (0 : Int32) (0 : Int32) (19 : Int32) (20 : Int32) (1 : Int32) (14 : Int32) (4 : Int32) rfl) rfl (Nat.le_of_ble_eq_true rfl) (Nat.le_of_ble_eq_true rfl) (Nat.le_of_ble_eq_true rfl) (Nat.le_of_ble_eq_true rfl) (Nat.le_refl _) rfl rfl dX12_otherWord_12 ?_
  refine z_lcmp C0 dX12_otherWord_15 ?_
  refine z_if_ne C0 22 dX12_otherWord_16 (by decide) (fun c1 => ?_) (fun c1 => ?_)
  · have h := zif_t c1 h
    refine z_lload_n C0 dX12_otherWord_22 rfl 0 rfl ?_
    refine z_iconst (v := (0 : Int32)) C0 dX12_otherWord_23 (by decide) ?_
    refine z_iconst (v := (0 : Int32)) C0 dX12_otherWord_24 (by decide) ?_
    refine z_iconst (v := (0 : Int32)) C0 dX12_otherWord_25 (by decide) ?_
    refine z_bipush (v := (12 : Int32)) C0 dX12_otherWord_26 (by decide) ?_
    refine z_iconst (v := (5 : Int32)) C0 dX12_otherWord_28 (by decide) ?_
    refine z_iconst (v := (1 : Int32)) C0 dX12_otherWord_29 (by decide) ?_
    refine z_bipush (v := (22 : Int32)) C0 dX12_otherWord_30 (by decide) ?_
    refine z_iconst (v := (5 : Int32)) C0 dX12_otherWord_32 (by decide) ?_
    refine z_callS (As := [.int (0 : Int32), .int (0 : Int32), .int (0 : Int32), .int (12 : Int32), .int (5 : Int32), .int (1 : Int32), .int (22 : Int32), .int (5 : Int32)]) (rest := [.long v0]) C0 rfl kc_X12_eight km_RX12_61 (r_X12_eight (l := l) (g := g) (μ := μ) (0 : Int32) (0 : Int32) (0 : Int32) (12 : Int32) (5 : Int32) (1 : Int32) (22 : Int32) (5 : Int32) rfl) rfl (Nat.le_of_ble_eq_true rfl) (Nat.le_of_ble_eq_true rfl) (Nat.le_of_ble_eq_true rfl) (Nat.le_of_ble_eq_true rfl) (Nat.le_refl _) rfl rfl dX12_otherWord_33 ?_
    refine z_lcmp C0 dX12_otherWord_36 ?_
    refine z_if_ne C0 43 dX12_otherWord_37 (by decide) (fun c18 => ?_) (fun c18 => ?_)
    · have h := zif_t c18 h
      refine z_lload_n C0 dX12_otherWord_43 rfl 0 rfl ?_
      refine z_bipush (v := (23 : Int32)) C0 dX12_otherWord_44 (by decide) ?_
      refine z_bipush (v := (9 : Int32)) C0 dX12_otherWord_46 (by decide) ?_
      refine z_bipush (v := (14 : Int32)) C0 dX12_otherWord_48 (by decide) ?_
      refine z_iconst (v := (4 : Int32)) C0 dX12_otherWord_50 (by decide) ?_
      refine z_callS (As := [.int (23 : Int32), .int (9 : Int32), .int (14 : Int32), .int (4 : Int32)]) (rest := [.long v0]) C0 rfl kc_X12_four km_RX12_55 (r_X12_four (l := l) (g := g) (μ := μ) (23 : Int32) (9 : Int32) (14 : Int32) (4 : Int32) rfl) rfl (Nat.le_of_ble_eq_true rfl) (Nat.le_of_ble_eq_true rfl) (Nat.le_of_ble_eq_true rfl) (Nat.le_of_ble_eq_true rfl) (Nat.le_refl _) rfl rfl dX12_otherWord_51 ?_
      refine z_lcmp C0 dX12_otherWord_54 ?_
      refine z_if_ne C0 61 dX12_otherWord_55 (by decide) (fun c34 => ?_) (fun c34 => ?_)
      · have h := zif_t c34 h
        refine z_lload_n C0 dX12_otherWord_61 rfl 0 rfl ?_
        refine z_iconst (v := (3 : Int32)) C0 dX12_otherWord_62 (by decide) ?_
        refine z_iconst (v := (1 : Int32)) C0 dX12_otherWord_63 (by decide) ?_
        refine z_bipush (v := (12 : Int32)) C0 dX12_otherWord_64 (by decide) ?_
        refine z_bipush (v := (13 : Int32)) C0 dX12_otherWord_66 (by decide) ?_
        refine z_callS (As := [.int (3 : Int32), .int (1 : Int32), .int (12 : Int32), .int (13 : Int32)]) (rest := [.long v0]) C0 rfl kc_X12_four km_RX12_55 (r_X12_four (l := l) (g := g) (μ := μ) (3 : Int32) (1 : Int32) (12 : Int32) (13 : Int32) rfl) rfl (Nat.le_of_ble_eq_true rfl) (Nat.le_of_ble_eq_true rfl) (Nat.le_of_ble_eq_true rfl) (Nat.le_of_ble_eq_true rfl) (Nat.le_refl _) rfl rfl dX12_otherWord_68 ?_
        refine z_lcmp C0 dX12_otherWord_71 ?_
        refine z_if_ne C0 78 dX12_otherWord_72 (by decide) (fun c49 => ?_) (fun c49 => ?_)
        · have h := zif_t c49 h
          refine z_lload_n C0 dX12_otherWord_78 rfl 0 rfl ?_
          refine z_iconst (v := (0 : Int32)) C0 dX12_otherWord_79 (by decide) ?_
          refine z_iconst (v := (0 : Int32)) C0 dX12_otherWord_80 (by decide) ?_
          refine z_iconst (v := (0 : Int32)) C0 dX12_otherWord_81 (by decide) ?_
          refine z_bipush (v := (6 : Int32)) C0 dX12_otherWord_82 (by decide) ?_
          refine z_bipush (v := (18 : Int32)) C0 dX12_otherWord_84 (by decide) ?_
          refine z_bipush (v := (15 : Int32)) C0 dX12_otherWord_86 (by decide) ?_
          refine z_bipush (v := (19 : Int32)) C0 dX12_otherWord_88 (by decide) ?_
          refine z_bipush (v := (20 : Int32)) C0 dX12_otherWord_90 (by decide) ?_
          refine z_callS (As := [.int (0 : Int32), .int (0 : Int32), .int (0 : Int32), .int (6 : Int32), .int (18 : Int32), .int (15 : Int32), .int (19 : Int32), .int (20 : Int32)]) (rest := [.long v0]) C0 rfl kc_X12_eight km_RX12_61 (r_X12_eight (l := l) (g := g) (μ := μ) (0 : Int32) (0 : Int32) (0 : Int32) (6 : Int32) (18 : Int32) (15 : Int32) (19 : Int32) (20 : Int32) rfl) rfl (Nat.le_of_ble_eq_true rfl) (Nat.le_of_ble_eq_true rfl) (Nat.le_of_ble_eq_true rfl) (Nat.le_of_ble_eq_true rfl) (Nat.le_refl _) rfl rfl dX12_otherWord_92 ?_
          refine z_lcmp C0 dX12_otherWord_95 ?_
          refine z_if_ne C0 102 dX12_otherWord_96 (by decide) (fun c63 => ?_) (fun c63 => ?_)
          · have h := zif_t c63 h
            refine z_lload_n C0 dX12_otherWord_102 rfl 0 rfl ?_
            refine z_bipush (v := (20 : Int32)) C0 dX12_otherWord_103 (by decide) ?_
            refine z_bipush (v := (8 : Int32)) C0 dX12_otherWord_105 (by decide) ?_
            refine z_iconst (v := (1 : Int32)) C0 dX12_otherWord_107 (by decide) ?_
            refine z_bipush (v := (23 : Int32)) C0 dX12_otherWord_108 (by decide) ?_
            refine z_callS (As := [.int (20 : Int32), .int (8 : Int32), .int (1 : Int32), .int (23 : Int32)]) (rest := [.long v0]) C0 rfl kc_X12_four km_RX12_55 (r_X12_four (l := l) (g := g) (μ := μ) (20 : Int32) (8 : Int32) (1 : Int32) (23 : Int32) rfl) rfl (Nat.le_of_ble_eq_true rfl) (Nat.le_of_ble_eq_true rfl) (Nat.le_of_ble_eq_true rfl) (Nat.le_of_ble_eq_true rfl) (Nat.le_refl _) rfl rfl dX12_otherWord_110 ?_
            refine z_lcmp C0 dX12_otherWord_113 ?_
            refine z_if_ne C0 120 dX12_otherWord_114 (by decide) (fun c76 => ?_) (fun c76 => ?_)
            · have h := zif_t c76 h
              refine z_lload_n C0 dX12_otherWord_120 rfl 0 rfl ?_
              refine z_bipush (v := (13 : Int32)) C0 dX12_otherWord_121 (by decide) ?_
              refine z_bipush (v := (15 : Int32)) C0 dX12_otherWord_123 (by decide) ?_
              refine z_bipush (v := (15 : Int32)) C0 dX12_otherWord_125 (by decide) ?_
              refine z_bipush (v := (18 : Int32)) C0 dX12_otherWord_127 (by decide) ?_
              refine z_callS (As := [.int (13 : Int32), .int (15 : Int32), .int (15 : Int32), .int (18 : Int32)]) (rest := [.long v0]) C0 rfl kc_X12_four km_RX12_55 (r_X12_four (l := l) (g := g) (μ := μ) (13 : Int32) (15 : Int32) (15 : Int32) (18 : Int32) rfl) rfl (Nat.le_of_ble_eq_true rfl) (Nat.le_of_ble_eq_true rfl) (Nat.le_of_ble_eq_true rfl) (Nat.le_of_ble_eq_true rfl) (Nat.le_refl _) rfl rfl dX12_otherWord_129 ?_
              refine z_lcmp C0 dX12_otherWord_132 ?_
              refine z_if_ne C0 139 dX12_otherWord_133 (by decide) (fun c88 => ?_) (fun c88 => ?_)
              · have h := zif_t c88 h
                refine z_lload_n C0 dX12_otherWord_139 rfl 0 rfl ?_
                refine z_iconst (v := (3 : Int32)) C0 dX12_otherWord_140 (by decide) ?_
                refine z_iconst (v := (1 : Int32)) C0 dX12_otherWord_141 (by decide) ?_
                refine z_bipush (v := (19 : Int32)) C0 dX12_otherWord_142 (by decide) ?_
                refine z_bipush (v := (20 : Int32)) C0 dX12_otherWord_144 (by decide) ?_
                refine z_callS (As := [.int (3 : Int32), .int (1 : Int32), .int (19 : Int32), .int (20 : Int32)]) (rest := [.long v0]) C0 rfl kc_X12_four km_RX12_55 (r_X12_four (l := l) (g := g) (μ := μ) (3 : Int32) (1 : Int32) (19 : Int32) (20 : Int32) rfl) rfl (Nat.le_of_ble_eq_true rfl) (Nat.le_of_ble_eq_true rfl) (Nat.le_of_ble_eq_true rfl) (Nat.le_of_ble_eq_true rfl) (Nat.le_refl _) rfl rfl dX12_otherWord_146 ?_
                refine z_lcmp C0 dX12_otherWord_149 ?_
                refine z_if_ne C0 156 dX12_otherWord_150 (by decide) (fun c99 => ?_) (fun c99 => ?_)
                · have h := zif_t c99 h
                  refine z_lload_n C0 dX12_otherWord_156 rfl 0 rfl ?_
                  refine z_iconst (v := (2 : Int32)) C0 dX12_otherWord_157 (by decide) ?_
                  refine z_iconst (v := (1 : Int32)) C0 dX12_otherWord_158 (by decide) ?_
                  refine z_bipush (v := (9 : Int32)) C0 dX12_otherWord_159 (by decide) ?_
                  refine z_bipush (v := (12 : Int32)) C0 dX12_otherWord_161 (by decide) ?_
                  refine z_callS (As := [.int (2 : Int32), .int (1 : Int32), .int (9 : Int32), .int (12 : Int32)]) (rest := [.long v0]) C0 rfl kc_X12_four km_RX12_55 (r_X12_four (l := l) (g := g) (μ := μ) (2 : Int32) (1 : Int32) (9 : Int32) (12 : Int32) rfl) rfl (Nat.le_of_ble_eq_true rfl) (Nat.le_of_ble_eq_true rfl) (Nat.le_of_ble_eq_true rfl) (Nat.le_of_ble_eq_true rfl) (Nat.le_refl _) rfl rfl dX12_otherWord_163 ?_
                  refine z_lcmp C0 dX12_otherWord_166 ?_
                  refine z_if_ne C0 173 dX12_otherWord_167 (by decide) (fun c109 => ?_) (fun c109 => ?_)
                  · have h := zif_t c109 h
                    refine z_lload_n C0 dX12_otherWord_173 rfl 0 rfl ?_
                    refine z_iconst (v := (0 : Int32)) C0 dX12_otherWord_174 (by decide) ?_
                    refine z_iconst (v := (0 : Int32)) C0 dX12_otherWord_175 (by decide) ?_
                    refine z_iconst (v := (0 : Int32)) C0 dX12_otherWord_176 (by decide) ?_
                    refine z_bipush (v := (8 : Int32)) C0 dX12_otherWord_177 (by decide) ?_
                    refine z_bipush (v := (15 : Int32)) C0 dX12_otherWord_179 (by decide) ?_
                    refine z_bipush (v := (21 : Int32)) C0 dX12_otherWord_181 (by decide) ?_
                    refine z_bipush (v := (18 : Int32)) C0 dX12_otherWord_183 (by decide) ?_
                    refine z_bipush (v := (19 : Int32)) C0 dX12_otherWord_185 (by decide) ?_
                    refine z_callS (As := [.int (0 : Int32), .int (0 : Int32), .int (0 : Int32), .int (8 : Int32), .int (15 : Int32), .int (21 : Int32), .int (18 : Int32), .int (19 : Int32)]) (rest := [.long v0]) C0 rfl kc_X12_eight km_RX12_61 (r_X12_eight (l := l) (g := g) (μ := μ) (0 : Int32) (0 : Int32) (0 : Int32) (8 : Int32) (15 : Int32) (21 : Int32) (18 : Int32) (19 : Int32) rfl) rfl (Nat.le_of_ble_eq_true rfl) (Nat.le_of_ble_eq_true rfl) (Nat.le_of_ble_eq_true rfl) (Nat.le_of_ble_eq_true rfl) (Nat.le_refl _) rfl rfl dX12_otherWord_187 ?_
                    refine z_lcmp C0 dX12_otherWord_190 ?_
                    refine z_if_ne C0 197 dX12_otherWord_191 (by decide) (fun c118 => ?_) (fun c118 => ?_)
                    · have h := zif_t c118 h
                      refine z_lload_n C0 dX12_otherWord_197 rfl 0 rfl ?_
                      refine z_iconst (v := (0 : Int32)) C0 dX12_otherWord_198 (by decide) ?_
                      refine z_bipush (v := (12 : Int32)) C0 dX12_otherWord_199 (by decide) ?_
                      refine z_iconst (v := (1 : Int32)) C0 dX12_otherWord_201 (by decide) ?_
                      refine z_bipush (v := (25 : Int32)) C0 dX12_otherWord_202 (by decide) ?_
                      refine z_callS (As := [.int (0 : Int32), .int (12 : Int32), .int (1 : Int32), .int (25 : Int32)]) (rest := [.long v0]) C0 rfl kc_X12_four km_RX12_55 (r_X12_four (l := l) (g := g) (μ := μ) (0 : Int32) (12 : Int32) (1 : Int32) (25 : Int32) rfl) rfl (Nat.le_of_ble_eq_true rfl) (Nat.le_of_ble_eq_true rfl) (Nat.le_of_ble_eq_true rfl) (Nat.le_of_ble_eq_true rfl) (Nat.le_refl _) rfl rfl dX12_otherWord_204 ?_
                      refine z_lcmp C0 dX12_otherWord_207 ?_
                      refine z_if_ne C0 214 dX12_otherWord_208 (by decide) (fun c126 => ?_) (fun c126 => ?_)
                      · have h := zif_t c126 h
                        refine z_lload_n C0 dX12_otherWord_214 rfl 0 rfl ?_
                        refine z_iconst (v := (4 : Int32)) C0 dX12_otherWord_215 (by decide) ?_
                        refine z_iconst (v := (5 : Int32)) C0 dX12_otherWord_216 (by decide) ?_
                        refine z_iconst (v := (1 : Int32)) C0 dX12_otherWord_217 (by decide) ?_
                        refine z_iconst (v := (4 : Int32)) C0 dX12_otherWord_218 (by decide) ?_
                        refine z_callS (As := [.int (4 : Int32), .int (5 : Int32), .int (1 : Int32), .int (4 : Int32)]) (rest := [.long v0]) C0 rfl kc_X12_four km_RX12_55 (r_X12_four (l := l) (g := g) (μ := μ) (4 : Int32) (5 : Int32) (1 : Int32) (4 : Int32) rfl) rfl (Nat.le_of_ble_eq_true rfl) (Nat.le_of_ble_eq_true rfl) (Nat.le_of_ble_eq_true rfl) (Nat.le_of_ble_eq_true rfl) (Nat.le_refl _) rfl rfl dX12_otherWord_219 ?_
                        refine z_lcmp C0 dX12_otherWord_222 ?_
                        refine z_if_ne C0 229 dX12_otherWord_223 (by decide) (fun c133 => ?_) (fun c133 => ?_)
                        · have h := zif_t c133 h
                          refine z_lload_n C0 dX12_otherWord_229 rfl 0 rfl ?_
                          refine z_bipush (v := (12 : Int32)) C0 dX12_otherWord_230 (by decide) ?_
                          refine z_bipush (v := (9 : Int32)) C0 dX12_otherWord_232 (by decide) ?_
                          refine z_bipush (v := (19 : Int32)) C0 dX12_otherWord_234 (by decide) ?_
                          refine z_bipush (v := (20 : Int32)) C0 dX12_otherWord_236 (by decide) ?_
                          refine z_callS (As := [.int (12 : Int32), .int (9 : Int32), .int (19 : Int32), .int (20 : Int32)]) (rest := [.long v0]) C0 rfl kc_X12_four km_RX12_55 (r_X12_four (l := l) (g := g) (μ := μ) (12 : Int32) (9 : Int32) (19 : Int32) (20 : Int32) rfl) rfl (Nat.le_of_ble_eq_true rfl) (Nat.le_of_ble_eq_true rfl) (Nat.le_of_ble_eq_true rfl) (Nat.le_of_ble_eq_true rfl) (Nat.le_refl _) rfl rfl dX12_otherWord_238 ?_
                          refine z_lcmp C0 dX12_otherWord_241 ?_
                          refine z_if_ne C0 248 dX12_otherWord_242 (by decide) (fun c139 => ?_) (fun c139 => ?_)
                          · have h := zif_t c139 h
                            refine z_lload_n C0 dX12_otherWord_248 rfl 0 rfl ?_
                            refine z_iconst (v := (0 : Int32)) C0 dX12_otherWord_249 (by decide) ?_
                            refine z_iconst (v := (0 : Int32)) C0 dX12_otherWord_250 (by decide) ?_
                            refine z_iconst (v := (0 : Int32)) C0 dX12_otherWord_251 (by decide) ?_
                            refine z_bipush (v := (20 : Int32)) C0 dX12_otherWord_252 (by decide) ?_
                            refine z_bipush (v := (15 : Int32)) C0 dX12_otherWord_254 (by decide) ?_
                            refine z_bipush (v := (21 : Int32)) C0 dX12_otherWord_256 (by decide) ?_
                            refine z_iconst (v := (3 : Int32)) C0 dX12_otherWord_258 (by decide) ?_
                            refine z_bipush (v := (8 : Int32)) C0 dX12_otherWord_259 (by decide) ?_
                            refine z_callS (As := [.int (0 : Int32), .int (0 : Int32), .int (0 : Int32), .int (20 : Int32), .int (15 : Int32), .int (21 : Int32), .int (3 : Int32), .int (8 : Int32)]) (rest := [.long v0]) C0 rfl kc_X12_eight km_RX12_61 (r_X12_eight (l := l) (g := g) (μ := μ) (0 : Int32) (0 : Int32) (0 : Int32) (20 : Int32) (15 : Int32) (21 : Int32) (3 : Int32) (8 : Int32) rfl) rfl (Nat.le_of_ble_eq_true rfl) (Nat.le_of_ble_eq_true rfl) (Nat.le_of_ble_eq_true rfl) (Nat.le_of_ble_eq_true rfl) (Nat.le_refl _) rfl rfl dX12_otherWord_261 ?_
                            refine z_lcmp C0 dX12_otherWord_264 ?_
                            refine z_if_ne C0 271 dX12_otherWord_265 (by decide) (fun c144 => ?_) (fun c144 => ?_)
                            · have h := zif_t c144 h
                              refine z_lload_n C0 dX12_otherWord_271 rfl 0 rfl ?_
                              refine z_iconst (v := (0 : Int32)) C0 dX12_otherWord_272 (by decide) ?_
                              refine z_iconst (v := (0 : Int32)) C0 dX12_otherWord_273 (by decide) ?_
                              refine z_iconst (v := (0 : Int32)) C0 dX12_otherWord_274 (by decide) ?_
                              refine z_bipush (v := (23 : Int32)) C0 dX12_otherWord_275 (by decide) ?_
                              refine z_iconst (v := (1 : Int32)) C0 dX12_otherWord_277 (by decide) ?_
                              refine z_bipush (v := (20 : Int32)) C0 dX12_otherWord_278 (by decide) ?_
                              refine z_iconst (v := (5 : Int32)) C0 dX12_otherWord_280 (by decide) ?_
                              refine z_bipush (v := (18 : Int32)) C0 dX12_otherWord_281 (by decide) ?_
                              refine z_callS (As := [.int (0 : Int32), .int (0 : Int32), .int (0 : Int32), .int (23 : Int32), .int (1 : Int32), .int (20 : Int32), .int (5 : Int32), .int (18 : Int32)]) (rest := [.long v0]) C0 rfl kc_X12_eight km_RX12_61 (r_X12_eight (l := l) (g := g) (μ := μ) (0 : Int32) (0 : Int32) (0 : Int32) (23 : Int32) (1 : Int32) (20 : Int32) (5 : Int32) (18 : Int32) rfl) rfl (Nat.le_of_ble_eq_true rfl) (Nat.le_of_ble_eq_true rfl) (Nat.le_of_ble_eq_true rfl) (Nat.le_of_ble_eq_true rfl) (Nat.le_refl _) rfl rfl dX12_otherWord_283 ?_
                              refine z_lcmp C0 dX12_otherWord_286 ?_
                              refine z_if_ne C0 293 dX12_otherWord_287 (by decide) (fun c148 => ?_) (fun c148 => ?_)
                              · have h := zif_t c148 h
                                refine z_lload_n C0 dX12_otherWord_293 rfl 0 rfl ?_
                                refine z_iconst (v := (0 : Int32)) C0 dX12_otherWord_294 (by decide) ?_
                                refine z_bipush (v := (15 : Int32)) C0 dX12_otherWord_295 (by decide) ?_
                                refine z_iconst (v := (4 : Int32)) C0 dX12_otherWord_297 (by decide) ?_
                                refine z_iconst (v := (4 : Int32)) C0 dX12_otherWord_298 (by decide) ?_
                                refine z_callS (As := [.int (0 : Int32), .int (15 : Int32), .int (4 : Int32), .int (4 : Int32)]) (rest := [.long v0]) C0 rfl kc_X12_four km_RX12_55 (r_X12_four (l := l) (g := g) (μ := μ) (0 : Int32) (15 : Int32) (4 : Int32) (4 : Int32) rfl) rfl (Nat.le_of_ble_eq_true rfl) (Nat.le_of_ble_eq_true rfl) (Nat.le_of_ble_eq_true rfl) (Nat.le_of_ble_eq_true rfl) (Nat.le_refl _) rfl rfl dX12_otherWord_299 ?_
                                refine z_lcmp C0 dX12_otherWord_302 ?_
                                refine z_if_ne C0 309 dX12_otherWord_303 (by decide) (fun c151 => ?_) (fun c151 => ?_)
                                · have h := zif_t c151 h
                                  refine z_lload_n C0 dX12_otherWord_309 rfl 0 rfl ?_
                                  refine z_bipush (v := (13 : Int32)) C0 dX12_otherWord_310 (by decide) ?_
                                  refine z_bipush (v := (15 : Int32)) C0 dX12_otherWord_312 (by decide) ?_
                                  refine z_bipush (v := (19 : Int32)) C0 dX12_otherWord_314 (by decide) ?_
                                  refine z_bipush (v := (20 : Int32)) C0 dX12_otherWord_316 (by decide) ?_
                                  refine z_callS (As := [.int (13 : Int32), .int (15 : Int32), .int (19 : Int32), .int (20 : Int32)]) (rest := [.long v0]) C0 rfl kc_X12_four km_RX12_55 (r_X12_four (l := l) (g := g) (μ := μ) (13 : Int32) (15 : Int32) (19 : Int32) (20 : Int32) rfl) rfl (Nat.le_of_ble_eq_true rfl) (Nat.le_of_ble_eq_true rfl) (Nat.le_of_ble_eq_true rfl) (Nat.le_of_ble_eq_true rfl) (Nat.le_refl _) rfl rfl dX12_otherWord_318 ?_
                                  refine z_lcmp C0 dX12_otherWord_321 ?_
                                  obtain ⟨x155, e_x155, h⟩ := zl_of h
                                  refine z_join μ 332 [] [.int x155] ?_ (fun k_J154 => ?_)
                                  · skip
                                    obtain rfl := h
                                    exact z_iret C0 rfl dX12_otherWord_332
                                  · have h := e_x155.symm
                                    refine z_if_ne C0 330 dX12_otherWord_322 (by decide) (fun c153 => ?_) (fun c153 => ?_)
                                    · have h := zif_t c153 h
                                      refine z_bipush (v := (99 : Int32)) C0 dX12_otherWord_330 (by decide) ?_
                                      refine z_sub (lo1 := []) [] rfl ?_
                                      obtain rfl := h
                                      exact k_J154
                                    · have h := zif_f (fun q => q c153) h
                                      refine z_bipush (v := (29 : Int32)) C0 dX12_otherWord_325 (by decide) ?_
                                      refine z_goto C0 332 dX12_otherWord_327 (by decide) ?_
                                      refine z_sub (lo1 := []) [] rfl ?_
                                      obtain rfl := h
                                      exact k_J154
                                · have h := zif_f (fun q => q c151) h
                                  refine z_bipush (v := (28 : Int32)) C0 dX12_otherWord_306 (by decide) ?_
                                  skip
                                  obtain rfl := h
                                  exact z_iret C0 rfl dX12_otherWord_308
                              · have h := zif_f (fun q => q c148) h
                                refine z_bipush (v := (27 : Int32)) C0 dX12_otherWord_290 (by decide) ?_
                                skip
                                obtain rfl := h
                                exact z_iret C0 rfl dX12_otherWord_292
                            · have h := zif_f (fun q => q c144) h
                              refine z_bipush (v := (26 : Int32)) C0 dX12_otherWord_268 (by decide) ?_
                              skip
                              obtain rfl := h
                              exact z_iret C0 rfl dX12_otherWord_270
                          · have h := zif_f (fun q => q c139) h
                            refine z_bipush (v := (25 : Int32)) C0 dX12_otherWord_245 (by decide) ?_
                            skip
                            obtain rfl := h
                            exact z_iret C0 rfl dX12_otherWord_247
                        · have h := zif_f (fun q => q c133) h
                          refine z_bipush (v := (24 : Int32)) C0 dX12_otherWord_226 (by decide) ?_
                          skip
                          obtain rfl := h
                          exact z_iret C0 rfl dX12_otherWord_228
                      · have h := zif_f (fun q => q c126) h
                        refine z_bipush (v := (23 : Int32)) C0 dX12_otherWord_211 (by decide) ?_
                        skip
                        obtain rfl := h
                        exact z_iret C0 rfl dX12_otherWord_213
                    · have h := zif_f (fun q => q c118) h
                      refine z_bipush (v := (22 : Int32)) C0 dX12_otherWord_194 (by decide) ?_
                      skip
                      obtain rfl := h
                      exact z_iret C0 rfl dX12_otherWord_196
                  · have h := zif_f (fun q => q c109) h
                    refine z_bipush (v := (21 : Int32)) C0 dX12_otherWord_170 (by decide) ?_
                    skip
                    obtain rfl := h
                    exact z_iret C0 rfl dX12_otherWord_172
                · have h := zif_f (fun q => q c99) h
                  refine z_bipush (v := (20 : Int32)) C0 dX12_otherWord_153 (by decide) ?_
                  skip
                  obtain rfl := h
                  exact z_iret C0 rfl dX12_otherWord_155
              · have h := zif_f (fun q => q c88) h
                refine z_bipush (v := (19 : Int32)) C0 dX12_otherWord_136 (by decide) ?_
                skip
                obtain rfl := h
                exact z_iret C0 rfl dX12_otherWord_138
            · have h := zif_f (fun q => q c76) h
              refine z_bipush (v := (18 : Int32)) C0 dX12_otherWord_117 (by decide) ?_
              skip
              obtain rfl := h
              exact z_iret C0 rfl dX12_otherWord_119
          · have h := zif_f (fun q => q c63) h
            refine z_bipush (v := (17 : Int32)) C0 dX12_otherWord_99 (by decide) ?_
            skip
            obtain rfl := h
            exact z_iret C0 rfl dX12_otherWord_101
        · have h := zif_f (fun q => q c49) h
          refine z_bipush (v := (16 : Int32)) C0 dX12_otherWord_75 (by decide) ?_
          skip
          obtain rfl := h
          exact z_iret C0 rfl dX12_otherWord_77
      · have h := zif_f (fun q => q c34) h
        refine z_bipush (v := (15 : Int32)) C0 dX12_otherWord_58 (by decide) ?_
        skip
        obtain rfl := h
        exact z_iret C0 rfl dX12_otherWord_60
    · have h := zif_f (fun q => q c18) h
      refine z_bipush (v := (14 : Int32)) C0 dX12_otherWord_40 (by decide) ?_
      skip
      obtain rfl := h
      exact z_iret C0 rfl dX12_otherWord_42
  · have h := zif_f (fun q => q c1) h
    refine z_bipush (v := (13 : Int32)) C0 dX12_otherWord_19 (by decide) ?_
    skip
    obtain rfl := h
    exact z_iret C0 rfl dX12_otherWord_21
def f_X12_wordOf (v0 : Int64) : Int32 :=
  if ¬ (lg_cmp v0 (f_X12_four (12 : Int32) (1 : Int32) (11 : Int32) (5 : Int32))) = 0 then
    if ¬ (lg_cmp v0 (f_X12_four (18 : Int32) (1 : Int32) (6 : Int32) (20 : Int32))) = 0 then
      if ¬ (lg_cmp v0 (f_X12_four (0 : Int32) (0 : Int32) (1 : Int32) (20 : Int32))) = 0 then
        if ¬ (lg_cmp v0 (f_X12_eight (0 : Int32) (0 : Int32) (0 : Int32) (19 : Int32) (20 : Int32) (9 : Int32) (6 : Int32) (6 : Int32))) = 0 then
          if ¬ (lg_cmp v0 (f_X12_four (4 : Int32) (18 : Int32) (1 : Int32) (7 : Int32))) = 0 then
            if ¬ (lg_cmp v0 (f_X12_eight (0 : Int32) (0 : Int32) (0 : Int32) (6 : Int32) (12 : Int32) (15 : Int32) (1 : Int32) (20 : Int32))) = 0 then
              if ¬ (lg_cmp v0 (f_X12_four (18 : Int32) (15 : Int32) (3 : Int32) (11 : Int32))) = 0 then
                if ¬ (lg_cmp v0 (f_X12_eight (0 : Int32) (0 : Int32) (0 : Int32) (7 : Int32) (18 : Int32) (1 : Int32) (22 : Int32) (5 : Int32))) = 0 then
                  if ¬ (lg_cmp v0 (f_X12_eight (0 : Int32) (0 : Int32) (23 : Int32) (18 : Int32) (5 : Int32) (1 : Int32) (20 : Int32) (8 : Int32))) = 0 then
                    if ¬ (lg_cmp v0 (f_X12_eight (0 : Int32) (13 : Int32) (15 : Int32) (21 : Int32) (18 : Int32) (14 : Int32) (5 : Int32) (18 : Int32))) = 0 then
                      if ¬ (lg_cmp v0 (f_X12_four (12 : Int32) (5 : Int32) (1 : Int32) (11 : Int32))) = 0 then
                        if ¬ (lg_cmp v0 (f_X12_eight (2 : Int32) (18 : Int32) (15 : Int32) (20 : Int32) (8 : Int32) (5 : Int32) (18 : Int32) (19 : Int32))) = 0 then
                          (f_X12_otherWord v0)
                        else
                          (12 : Int32)
                      else
                        (11 : Int32)
                    else
                      (10 : Int32)
                  else
                    (9 : Int32)
                else
                  (8 : Int32)
              else
                (7 : Int32)
            else
              (6 : Int32)
          else
            (5 : Int32)
        else
          (4 : Int32)
      else
        (3 : Int32)
    else
      (2 : Int32)
  else
    (1 : Int32)
set_option maxHeartbeats 4000000 in
set_option maxRecDepth 100000 in
theorem r_X12_wordOf {l : Launch} {g : zL} (v0 : Int64) {μ : zM}  {rv : Int32} (h : f_X12_wordOf v0 = rv) : zMet l g yX12_wordOf cX12_wordOf 2 (some (.int)) 3 0 0 zNN zNN zσ1 zσ1 [.long v0] μ (some (.int rv)) μ := by
  refine zMet.of (by decide +kernel) (Nat.le_of_ble_eq_true rfl) ?_
  intro p e s m args below meth c C0
  refine z_loc (lo1 := [(0, .long v0)]) rfl ?_
  unfold f_X12_wordOf at h
  refine z_lload_n C0 dX12_wordOf_0 rfl 0 rfl ?_
  refine z_bipush (v := (12 : Int32)) C0 dX12_wordOf_1 (by decide) ?_
  refine z_iconst (v := (1 : Int32)) C0 dX12_wordOf_3 (by decide) ?_
  refine z_bipush (v := (11 : Int32)) C0 dX12_wordOf_4 (by decide) ?_
  refine z_iconst (v := (5 : Int32)) C0 dX12_wordOf_6 (by decide) ?_
  refine z_callS (As := [.int (12 : Int32), .int (1 : Int32), .int (11 : Int32), .int (5 : Int32)]) (rest := [.long v0]) C0 rfl kc_X12_four km_RX12_55 (r_X12_four (l := l) (g := g) (μ := μ) (12 : Int32) (1 : Int32) (11 : Int32) (5 : Int32) rfl) rfl (Nat.le_of_ble_eq_true rfl) (Nat.le_of_ble_eq_true rfl) (Nat.le_of_ble_eq_true rfl) (Nat.le_of_ble_eq_true rfl) (Nat.le_refl _) rfl rfl dX12_wordOf_7 ?_
  refine z_lcmp C0 dX12_wordOf_10 ?_
  refine z_if_ne C0 16 dX12_wordOf_11 (by decide) (fun c1 => ?_) (fun c1 => ?_)
  · have h := zif_t c1 h
    refine z_lload_n C0 dX12_wordOf_16 rfl 0 rfl ?_
    refine z_bipush (v := (18 : Int32)) C0 dX12_wordOf_17 (by decide) ?_
    refine z_iconst (v := (1 : Int32)) C0 dX12_wordOf_19 (by decide) ?_
    refine z_bipush (v := (6 : Int32)) C0 dX12_wordOf_20 (by decide) ?_
    refine z_bipush (v := (20 : Int32)) C0 dX12_wordOf_22 (by decide) ?_
    refine z_callS (As := [.int (18 : Int32), .int (1 : Int32), .int (6 : Int32), .int (20 : Int32)]) (rest := [.long v0]) C0 rfl kc_X12_four km_RX12_55 (r_X12_four (l := l) (g := g) (μ := μ) (18 : Int32) (1 : Int32) (6 : Int32) (20 : Int32) rfl) rfl (Nat.le_of_ble_eq_true rfl) (Nat.le_of_ble_eq_true rfl) (Nat.le_of_ble_eq_true rfl) (Nat.le_of_ble_eq_true rfl) (Nat.le_refl _) rfl rfl dX12_wordOf_24 ?_
    refine z_lcmp C0 dX12_wordOf_27 ?_
    refine z_if_ne C0 33 dX12_wordOf_28 (by decide) (fun c13 => ?_) (fun c13 => ?_)
    · have h := zif_t c13 h
      refine z_lload_n C0 dX12_wordOf_33 rfl 0 rfl ?_
      refine z_iconst (v := (0 : Int32)) C0 dX12_wordOf_34 (by decide) ?_
      refine z_iconst (v := (0 : Int32)) C0 dX12_wordOf_35 (by decide) ?_
      refine z_iconst (v := (1 : Int32)) C0 dX12_wordOf_36 (by decide) ?_
      refine z_bipush (v := (20 : Int32)) C0 dX12_wordOf_37 (by decide) ?_
      refine z_callS (As := [.int (0 : Int32), .int (0 : Int32), .int (1 : Int32), .int (20 : Int32)]) (rest := [.long v0]) C0 rfl kc_X12_four km_RX12_55 (r_X12_four (l := l) (g := g) (μ := μ) (0 : Int32) (0 : Int32) (1 : Int32) (20 : Int32) rfl) rfl (Nat.le_of_ble_eq_true rfl) (Nat.le_of_ble_eq_true rfl) (Nat.le_of_ble_eq_true rfl) (Nat.le_of_ble_eq_true rfl) (Nat.le_refl _) rfl rfl dX12_wordOf_39 ?_
      refine z_lcmp C0 dX12_wordOf_42 ?_
      refine z_if_ne C0 48 dX12_wordOf_43 (by decide) (fun c24 => ?_) (fun c24 => ?_)
      · have h := zif_t c24 h
        refine z_lload_n C0 dX12_wordOf_48 rfl 0 rfl ?_
        refine z_iconst (v := (0 : Int32)) C0 dX12_wordOf_49 (by decide) ?_
        refine z_iconst (v := (0 : Int32)) C0 dX12_wordOf_50 (by decide) ?_
        refine z_iconst (v := (0 : Int32)) C0 dX12_wordOf_51 (by decide) ?_
        refine z_bipush (v := (19 : Int32)) C0 dX12_wordOf_52 (by decide) ?_
        refine z_bipush (v := (20 : Int32)) C0 dX12_wordOf_54 (by decide) ?_
        refine z_bipush (v := (9 : Int32)) C0 dX12_wordOf_56 (by decide) ?_
        refine z_bipush (v := (6 : Int32)) C0 dX12_wordOf_58 (by decide) ?_
        refine z_bipush (v := (6 : Int32)) C0 dX12_wordOf_60 (by decide) ?_
        refine z_callS (As := [.int (0 : Int32), .int (0 : Int32), .int (0 : Int32), .int (19 : Int32), .int (20 : Int32), .int (9 : Int32), .int (6 : Int32), .int (6 : Int32)]) (rest := [.long v0]) C0 rfl kc_X12_eight km_RX12_61 (r_X12_eight (l := l) (g := g) (μ := μ) (0 : Int32) (0 : Int32) (0 : Int32) (19 : Int32) (20 : Int32) (9 : Int32) (6 : Int32) (6 : Int32) rfl) rfl (Nat.le_of_ble_eq_true rfl) (Nat.le_of_ble_eq_true rfl) (Nat.le_of_ble_eq_true rfl) (Nat.le_of_ble_eq_true rfl) (Nat.le_refl _) rfl rfl dX12_wordOf_62 ?_
        refine z_lcmp C0 dX12_wordOf_65 ?_
        refine z_if_ne C0 71 dX12_wordOf_66 (by decide) (fun c34 => ?_) (fun c34 => ?_)
        · have h := zif_t c34 h
          refine z_lload_n C0 dX12_wordOf_71 rfl 0 rfl ?_
          refine z_iconst (v := (4 : Int32)) C0 dX12_wordOf_72 (by decide) ?_
          refine z_bipush (v := (18 : Int32)) C0 dX12_wordOf_73 (by decide) ?_
          refine z_iconst (v := (1 : Int32)) C0 dX12_wordOf_75 (by decide) ?_
          refine z_bipush (v := (7 : Int32)) C0 dX12_wordOf_76 (by decide) ?_
          refine z_callS (As := [.int (4 : Int32), .int (18 : Int32), .int (1 : Int32), .int (7 : Int32)]) (rest := [.long v0]) C0 rfl kc_X12_four km_RX12_55 (r_X12_four (l := l) (g := g) (μ := μ) (4 : Int32) (18 : Int32) (1 : Int32) (7 : Int32) rfl) rfl (Nat.le_of_ble_eq_true rfl) (Nat.le_of_ble_eq_true rfl) (Nat.le_of_ble_eq_true rfl) (Nat.le_of_ble_eq_true rfl) (Nat.le_refl _) rfl rfl dX12_wordOf_78 ?_
          refine z_lcmp C0 dX12_wordOf_81 ?_
          refine z_if_ne C0 87 dX12_wordOf_82 (by decide) (fun c43 => ?_) (fun c43 => ?_)
          · have h := zif_t c43 h
            refine z_lload_n C0 dX12_wordOf_87 rfl 0 rfl ?_
            refine z_iconst (v := (0 : Int32)) C0 dX12_wordOf_88 (by decide) ?_
            refine z_iconst (v := (0 : Int32)) C0 dX12_wordOf_89 (by decide) ?_
            refine z_iconst (v := (0 : Int32)) C0 dX12_wordOf_90 (by decide) ?_
            refine z_bipush (v := (6 : Int32)) C0 dX12_wordOf_91 (by decide) ?_
            refine z_bipush (v := (12 : Int32)) C0 dX12_wordOf_93 (by decide) ?_
            refine z_bipush (v := (15 : Int32)) C0 dX12_wordOf_95 (by decide) ?_
            refine z_iconst (v := (1 : Int32)) C0 dX12_wordOf_97 (by decide) ?_
            refine z_bipush (v := (20 : Int32)) C0 dX12_wordOf_98 (by decide) ?_
            refine z_callS (As := [.int (0 : Int32), .int (0 : Int32), .int (0 : Int32), .int (6 : Int32), .int (12 : Int32), .int (15 : Int32), .int (1 : Int32), .int (20 : Int32)]) (rest := [.long v0]) C0 rfl kc_X12_eight km_RX12_61 (r_X12_eight (l := l) (g := g) (μ := μ) (0 : Int32) (0 : Int32) (0 : Int32) (6 : Int32) (12 : Int32) (15 : Int32) (1 : Int32) (20 : Int32) rfl) rfl (Nat.le_of_ble_eq_true rfl) (Nat.le_of_ble_eq_true rfl) (Nat.le_of_ble_eq_true rfl) (Nat.le_of_ble_eq_true rfl) (Nat.le_refl _) rfl rfl dX12_wordOf_100 ?_
            refine z_lcmp C0 dX12_wordOf_103 ?_
            refine z_if_ne C0 110 dX12_wordOf_104 (by decide) (fun c51 => ?_) (fun c51 => ?_)
            · have h := zif_t c51 h
              refine z_lload_n C0 dX12_wordOf_110 rfl 0 rfl ?_
              refine z_bipush (v := (18 : Int32)) C0 dX12_wordOf_111 (by decide) ?_
              refine z_bipush (v := (15 : Int32)) C0 dX12_wordOf_113 (by decide) ?_
              refine z_iconst (v := (3 : Int32)) C0 dX12_wordOf_115 (by decide) ?_
              refine z_bipush (v := (11 : Int32)) C0 dX12_wordOf_116 (by decide) ?_
              refine z_callS (As := [.int (18 : Int32), .int (15 : Int32), .int (3 : Int32), .int (11 : Int32)]) (rest := [.long v0]) C0 rfl kc_X12_four km_RX12_55 (r_X12_four (l := l) (g := g) (μ := μ) (18 : Int32) (15 : Int32) (3 : Int32) (11 : Int32) rfl) rfl (Nat.le_of_ble_eq_true rfl) (Nat.le_of_ble_eq_true rfl) (Nat.le_of_ble_eq_true rfl) (Nat.le_of_ble_eq_true rfl) (Nat.le_refl _) rfl rfl dX12_wordOf_118 ?_
              refine z_lcmp C0 dX12_wordOf_121 ?_
              refine z_if_ne C0 128 dX12_wordOf_122 (by decide) (fun c58 => ?_) (fun c58 => ?_)
              · have h := zif_t c58 h
                refine z_lload_n C0 dX12_wordOf_128 rfl 0 rfl ?_
                refine z_iconst (v := (0 : Int32)) C0 dX12_wordOf_129 (by decide) ?_
                refine z_iconst (v := (0 : Int32)) C0 dX12_wordOf_130 (by decide) ?_
                refine z_iconst (v := (0 : Int32)) C0 dX12_wordOf_131 (by decide) ?_
                refine z_bipush (v := (7 : Int32)) C0 dX12_wordOf_132 (by decide) ?_
                refine z_bipush (v := (18 : Int32)) C0 dX12_wordOf_134 (by decide) ?_
                refine z_iconst (v := (1 : Int32)) C0 dX12_wordOf_136 (by decide) ?_
                refine z_bipush (v := (22 : Int32)) C0 dX12_wordOf_137 (by decide) ?_
                refine z_iconst (v := (5 : Int32)) C0 dX12_wordOf_139 (by decide) ?_
                refine z_callS (As := [.int (0 : Int32), .int (0 : Int32), .int (0 : Int32), .int (7 : Int32), .int (18 : Int32), .int (1 : Int32), .int (22 : Int32), .int (5 : Int32)]) (rest := [.long v0]) C0 rfl kc_X12_eight km_RX12_61 (r_X12_eight (l := l) (g := g) (μ := μ) (0 : Int32) (0 : Int32) (0 : Int32) (7 : Int32) (18 : Int32) (1 : Int32) (22 : Int32) (5 : Int32) rfl) rfl (Nat.le_of_ble_eq_true rfl) (Nat.le_of_ble_eq_true rfl) (Nat.le_of_ble_eq_true rfl) (Nat.le_of_ble_eq_true rfl) (Nat.le_refl _) rfl rfl dX12_wordOf_140 ?_
                refine z_lcmp C0 dX12_wordOf_143 ?_
                refine z_if_ne C0 150 dX12_wordOf_144 (by decide) (fun c64 => ?_) (fun c64 => ?_)
                · have h := zif_t c64 h
                  refine z_lload_n C0 dX12_wordOf_150 rfl 0 rfl ?_
                  refine z_iconst (v := (0 : Int32)) C0 dX12_wordOf_151 (by decide) ?_
                  refine z_iconst (v := (0 : Int32)) C0 dX12_wordOf_152 (by decide) ?_
                  refine z_bipush (v := (23 : Int32)) C0 dX12_wordOf_153 (by decide) ?_
                  refine z_bipush (v := (18 : Int32)) C0 dX12_wordOf_155 (by decide) ?_
                  refine z_iconst (v := (5 : Int32)) C0 dX12_wordOf_157 (by decide) ?_
                  refine z_iconst (v := (1 : Int32)) C0 dX12_wordOf_158 (by decide) ?_
                  refine z_bipush (v := (20 : Int32)) C0 dX12_wordOf_159 (by decide) ?_
                  refine z_bipush (v := (8 : Int32)) C0 dX12_wordOf_161 (by decide) ?_
                  refine z_callS (As := [.int (0 : Int32), .int (0 : Int32), .int (23 : Int32), .int (18 : Int32), .int (5 : Int32), .int (1 : Int32), .int (20 : Int32), .int (8 : Int32)]) (rest := [.long v0]) C0 rfl kc_X12_eight km_RX12_61 (r_X12_eight (l := l) (g := g) (μ := μ) (0 : Int32) (0 : Int32) (23 : Int32) (18 : Int32) (5 : Int32) (1 : Int32) (20 : Int32) (8 : Int32) rfl) rfl (Nat.le_of_ble_eq_true rfl) (Nat.le_of_ble_eq_true rfl) (Nat.le_of_ble_eq_true rfl) (Nat.le_of_ble_eq_true rfl) (Nat.le_refl _) rfl rfl dX12_wordOf_163 ?_
                  refine z_lcmp C0 dX12_wordOf_166 ?_
                  refine z_if_ne C0 173 dX12_wordOf_167 (by decide) (fun c69 => ?_) (fun c69 => ?_)
                  · have h := zif_t c69 h
                    refine z_lload_n C0 dX12_wordOf_173 rfl 0 rfl ?_
                    refine z_iconst (v := (0 : Int32)) C0 dX12_wordOf_174 (by decide) ?_
                    refine z_bipush (v := (13 : Int32)) C0 dX12_wordOf_175 (by decide) ?_
                    refine z_bipush (v := (15 : Int32)) C0 dX12_wordOf_177 (by decide) ?_
                    refine z_bipush (v := (21 : Int32)) C0 dX12_wordOf_179 (by decide) ?_
                    refine z_bipush (v := (18 : Int32)) C0 dX12_wordOf_181 (by decide) ?_
                    refine z_bipush (v := (14 : Int32)) C0 dX12_wordOf_183 (by decide) ?_
                    refine z_iconst (v := (5 : Int32)) C0 dX12_wordOf_185 (by decide) ?_
                    refine z_bipush (v := (18 : Int32)) C0 dX12_wordOf_186 (by decide) ?_
                    refine z_callS (As := [.int (0 : Int32), .int (13 : Int32), .int (15 : Int32), .int (21 : Int32), .int (18 : Int32), .int (14 : Int32), .int (5 : Int32), .int (18 : Int32)]) (rest := [.long v0]) C0 rfl kc_X12_eight km_RX12_61 (r_X12_eight (l := l) (g := g) (μ := μ) (0 : Int32) (13 : Int32) (15 : Int32) (21 : Int32) (18 : Int32) (14 : Int32) (5 : Int32) (18 : Int32) rfl) rfl (Nat.le_of_ble_eq_true rfl) (Nat.le_of_ble_eq_true rfl) (Nat.le_of_ble_eq_true rfl) (Nat.le_of_ble_eq_true rfl) (Nat.le_refl _) rfl rfl dX12_wordOf_188 ?_
                    refine z_lcmp C0 dX12_wordOf_191 ?_
                    refine z_if_ne C0 198 dX12_wordOf_192 (by decide) (fun c73 => ?_) (fun c73 => ?_)
                    · have h := zif_t c73 h
                      refine z_lload_n C0 dX12_wordOf_198 rfl 0 rfl ?_
                      refine z_bipush (v := (12 : Int32)) C0 dX12_wordOf_199 (by decide) ?_
                      refine z_iconst (v := (5 : Int32)) C0 dX12_wordOf_201 (by decide) ?_
                      refine z_iconst (v := (1 : Int32)) C0 dX12_wordOf_202 (by decide) ?_
                      refine z_bipush (v := (11 : Int32)) C0 dX12_wordOf_203 (by decide) ?_
                      refine z_callS (As := [.int (12 : Int32), .int (5 : Int32), .int (1 : Int32), .int (11 : Int32)]) (rest := [.long v0]) C0 rfl kc_X12_four km_RX12_55 (r_X12_four (l := l) (g := g) (μ := μ) (12 : Int32) (5 : Int32) (1 : Int32) (11 : Int32) rfl) rfl (Nat.le_of_ble_eq_true rfl) (Nat.le_of_ble_eq_true rfl) (Nat.le_of_ble_eq_true rfl) (Nat.le_of_ble_eq_true rfl) (Nat.le_refl _) rfl rfl dX12_wordOf_205 ?_
                      refine z_lcmp C0 dX12_wordOf_208 ?_
                      refine z_if_ne C0 215 dX12_wordOf_209 (by decide) (fun c76 => ?_) (fun c76 => ?_)
                      · have h := zif_t c76 h
                        refine z_lload_n C0 dX12_wordOf_215 rfl 0 rfl ?_
                        refine z_iconst (v := (2 : Int32)) C0 dX12_wordOf_216 (by decide) ?_
                        refine z_bipush (v := (18 : Int32)) C0 dX12_wordOf_217 (by decide) ?_
                        refine z_bipush (v := (15 : Int32)) C0 dX12_wordOf_219 (by decide) ?_
                        refine z_bipush (v := (20 : Int32)) C0 dX12_wordOf_221 (by decide) ?_
                        refine z_bipush (v := (8 : Int32)) C0 dX12_wordOf_223 (by decide) ?_
                        refine z_iconst (v := (5 : Int32)) C0 dX12_wordOf_225 (by decide) ?_
                        refine z_bipush (v := (18 : Int32)) C0 dX12_wordOf_226 (by decide) ?_
                        refine z_bipush (v := (19 : Int32)) C0 dX12_wordOf_228 (by decide) ?_
                        refine z_callS (As := [.int (2 : Int32), .int (18 : Int32), .int (15 : Int32), .int (20 : Int32), .int (8 : Int32), .int (5 : Int32), .int (18 : Int32), .int (19 : Int32)]) (rest := [.long v0]) C0 rfl kc_X12_eight km_RX12_61 (r_X12_eight (l := l) (g := g) (μ := μ) (2 : Int32) (18 : Int32) (15 : Int32) (20 : Int32) (8 : Int32) (5 : Int32) (18 : Int32) (19 : Int32) rfl) rfl (Nat.le_of_ble_eq_true rfl) (Nat.le_of_ble_eq_true rfl) (Nat.le_of_ble_eq_true rfl) (Nat.le_of_ble_eq_true rfl) (Nat.le_refl _) rfl rfl dX12_wordOf_230 ?_
                        refine z_lcmp C0 dX12_wordOf_233 ?_
                        refine z_if_ne C0 240 dX12_wordOf_234 (by decide) (fun c78 => ?_) (fun c78 => ?_)
                        · have h := zif_t c78 h
                          refine z_lload_n C0 dX12_wordOf_240 rfl 0 rfl ?_
                          refine z_callS (As := [.long v0]) (rest := []) C0 rfl kc_X12_otherWord km_RX12_65 (r_X12_otherWord (l := l) (g := g) (μ := μ) v0 rfl) rfl (Nat.le_of_ble_eq_true rfl) (Nat.le_of_ble_eq_true rfl) (Nat.le_of_ble_eq_true rfl) (Nat.le_of_ble_eq_true rfl) (Nat.le_refl _) rfl rfl dX12_wordOf_241 ?_
                          skip
                          obtain rfl := h
                          exact z_iret C0 rfl dX12_wordOf_244
                        · have h := zif_f (fun q => q c78) h
                          refine z_bipush (v := (12 : Int32)) C0 dX12_wordOf_237 (by decide) ?_
                          skip
                          obtain rfl := h
                          exact z_iret C0 rfl dX12_wordOf_239
                      · have h := zif_f (fun q => q c76) h
                        refine z_bipush (v := (11 : Int32)) C0 dX12_wordOf_212 (by decide) ?_
                        skip
                        obtain rfl := h
                        exact z_iret C0 rfl dX12_wordOf_214
                    · have h := zif_f (fun q => q c73) h
                      refine z_bipush (v := (10 : Int32)) C0 dX12_wordOf_195 (by decide) ?_
                      skip
                      obtain rfl := h
                      exact z_iret C0 rfl dX12_wordOf_197
                  · have h := zif_f (fun q => q c69) h
                    refine z_bipush (v := (9 : Int32)) C0 dX12_wordOf_170 (by decide) ?_
                    skip
                    obtain rfl := h
                    exact z_iret C0 rfl dX12_wordOf_172
                · have h := zif_f (fun q => q c64) h
                  refine z_bipush (v := (8 : Int32)) C0 dX12_wordOf_147 (by decide) ?_
                  skip
                  obtain rfl := h
                  exact z_iret C0 rfl dX12_wordOf_149
              · have h := zif_f (fun q => q c58) h
                refine z_bipush (v := (7 : Int32)) C0 dX12_wordOf_125 (by decide) ?_
                skip
                obtain rfl := h
                exact z_iret C0 rfl dX12_wordOf_127
            · have h := zif_f (fun q => q c51) h
              refine z_bipush (v := (6 : Int32)) C0 dX12_wordOf_107 (by decide) ?_
              skip
              obtain rfl := h
              exact z_iret C0 rfl dX12_wordOf_109
          · have h := zif_f (fun q => q c43) h
            refine z_iconst (v := (5 : Int32)) C0 dX12_wordOf_85 (by decide) ?_
            skip
            obtain rfl := h
            exact z_iret C0 rfl dX12_wordOf_86
        · have h := zif_f (fun q => q c34) h
          refine z_iconst (v := (4 : Int32)) C0 dX12_wordOf_69 (by decide) ?_
          skip
          obtain rfl := h
          exact z_iret C0 rfl dX12_wordOf_70
      · have h := zif_f (fun q => q c24) h
        refine z_iconst (v := (3 : Int32)) C0 dX12_wordOf_46 (by decide) ?_
        skip
        obtain rfl := h
        exact z_iret C0 rfl dX12_wordOf_47
    · have h := zif_f (fun q => q c13) h
      refine z_iconst (v := (2 : Int32)) C0 dX12_wordOf_31 (by decide) ?_
      skip
      obtain rfl := h
      exact z_iret C0 rfl dX12_wordOf_32
  · have h := zif_f (fun q => q c1) h
    refine z_iconst (v := (1 : Int32)) C0 dX12_wordOf_14 (by decide) ?_
    skip
    obtain rfl := h
    exact z_iret C0 rfl dX12_wordOf_15
def f_X12_isDigit (v0 : Int32) : Int32 :=
  zl (if (¬ (v0 < (48 : Int32))) ∧ (¬ ((57 : Int32) < v0)) then
      (1 : Int32)
    else
      (0 : Int32)) fun x4 =>
  x4
set_option maxHeartbeats 4000000 in
set_option maxRecDepth 100000 in
theorem r_X12_isDigit {l : Launch} {g : zL} (v0 : Int32) {μ : zM}  {rv : Int32} (h : f_X12_isDigit v0 = rv) : zMet l g yX12_isDigit cX12_isDigit 1 (some (.boolean)) 0 0 0 zNN zNN zσ1 zσ1 [.int v0] μ (some (.int rv)) μ := by
  refine zMet.of (by decide +kernel) (Nat.le_of_ble_eq_true rfl) ?_
  intro p e s m args below meth c C0
  refine z_loc (lo1 := [(0, .int v0)]) rfl ?_
  unfold f_X12_isDigit at h
  refine z_iload_n C0 dX12_isDigit_0 rfl 0 rfl ?_
  refine z_bipush (v := (48 : Int32)) C0 dX12_isDigit_1 (by decide) ?_
  obtain ⟨x4, e_x4, h⟩ := zl_of h
  refine z_join μ 17 [] [.int x4] ?_ (fun k_J3 => ?_)
  · skip
    obtain rfl := h
    exact z_zret C0 rfl (by rw [e_x4]; repeat' split <;> rfl) dX12_isDigit_17
  · have h := e_x4.symm
    by_cases hc5 : (¬ (v0 < (48 : Int32))) ∧ (¬ ((57 : Int32) < v0))
    · have h := zif_t hc5 h
      refine z_join μ 12 [(0, .int v0)] [] ?_ (fun k6 => ?_)
      · refine z_iconst (v := (1 : Int32)) C0 dX12_isDigit_12 (by decide) ?_
        refine z_goto C0 17 dX12_isDigit_13 (by decide) ?_
        refine z_sub (lo1 := []) [] rfl ?_
        obtain rfl := h
        exact k_J3
      · refine z_icmp_lt C0 16 dX12_isDigit_3 (by decide) (fun c1 => ?_) (fun c1 => ?_)
        · exact absurd hc5 (fun q => q.1 c1)
        · refine z_iload_n C0 dX12_isDigit_6 rfl 0 rfl ?_
          refine z_bipush (v := (57 : Int32)) C0 dX12_isDigit_7 (by decide) ?_
          refine z_icmp_gt C0 16 dX12_isDigit_9 (by decide) (fun c2 => ?_) (fun c2 => ?_)
          · exact absurd hc5 (fun q => (fun q => q c2) q.2)
          · exact k6
    · have h := zif_f hc5 h
      refine z_join μ 16 [(0, .int v0)] [] ?_ (fun k7 => ?_)
      · refine z_iconst (v := (0 : Int32)) C0 dX12_isDigit_16 (by decide) ?_
        refine z_sub (lo1 := []) [] rfl ?_
        obtain rfl := h
        exact k_J3
      · refine z_icmp_lt C0 16 dX12_isDigit_3 (by decide) (fun c1 => ?_) (fun c1 => ?_)
        · exact k7
        · refine z_iload_n C0 dX12_isDigit_6 rfl 0 rfl ?_
          refine z_bipush (v := (57 : Int32)) C0 dX12_isDigit_7 (by decide) ?_
          refine z_icmp_gt C0 16 dX12_isDigit_9 (by decide) (fun c2 => ?_) (fun c2 => ?_)
          · exact k7
          · exact absurd ⟨c1, c2⟩ hc5
def f_X12_advance_L0 (a0 : Nat) : Nat → zM → Option (zM)
  | 0, _ => none
  | n + 1, μ2 =>
    zbd (f_X12_byteAt a0 (μ2 a0 3) μ2) fun r3 =>
    zbd (if r3 = (10 : Int32) then
        some false
      else
        zbd (f_X12_byteAt a0 (μ2 a0 3) μ2) fun r6 =>
        if ¬ r6 = (32 : Int32) then
          some true
        else
          some false) fun b8 =>
    if b8 = true then
      some μ2
    else
      zl (zup μ2 a0 3 ((μ2 a0 3) + (1 : Int32))) fun μ9 =>
      f_X12_advance_L0 a0 n μ9
def f_X12_advance_L198 (a0 : Nat) : Nat → zM → Option (zM)
  | 0, _ => none
  | n + 1, μ27 =>
    zbd (f_X12_byteAt a0 (μ27 a0 3) μ27) fun r28 =>
    if (f_X12_isDigit r28) = 0 then
      some μ27
    else
      zbd (if (3 : Int32) ≤ ((μ27 a0 3) - (μ27 a0 4)) then
          some μ27
        else
          zbd (f_X12_byteAt a0 (μ27 a0 3) μ27) fun r33 =>
          zl (zup μ27 a0 6 ((((10 : Int32) * (μ27 a0 6)) + r33) - (48 : Int32))) fun μ34 =>
          some μ34) fun μ35 =>
      zl (zup μ35 a0 3 ((μ35 a0 3) + (1 : Int32))) fun μ36 =>
      f_X12_advance_L198 a0 n μ36
def f_X12_advance_L77 (a0 : Nat) : Nat → Int64 → zM → Option (Int64 × zM)
  | 0, _, _ => none
  | n + 1, y44, μ45 =>
    zbd (f_X12_byteAt a0 (μ45 a0 3) μ45) fun r46 =>
    if (f_X12_isLetter r46) = 0 then
      some (y44, μ45)
    else
      zbd (if (8 : Int32) ≤ ((μ45 a0 3) - (μ45 a0 4)) then
          some y44
        else
          zbd (f_X12_byteAt a0 (μ45 a0 3) μ45) fun r51 =>
          zl ((((32 : Int64) * y44) + (r51.toInt64)) - (96 : Int64)) fun x52 =>
          some x52) fun x53 =>
      zl (zup μ45 a0 3 ((μ45 a0 3) + (1 : Int32))) fun μ54 =>
      f_X12_advance_L77 a0 n x53 μ54
def f_X12_advance (a0 : Nat) (μ : zM) : Option (zM) :=
  zbd (f_X12_advance_L0 a0 zFU μ) fun μ10 =>
  zl (zup μ10 a0 4 (μ10 a0 3)) fun μ11 =>
  zbd (f_X12_byteAt a0 (μ11 a0 3) μ11) fun r12 =>
  zbd (if 0 ≤ r12 then
      if (f_X12_isLetter r12) = 0 then
        if (f_X12_isDigit r12) = 0 then
          zl (zup μ11 a0 3 ((μ11 a0 3) + (1 : Int32))) fun μ20 =>
          zl (if ¬ r12 = (59 : Int32) then
              (4 : Int32)
            else
              (2 : Int32)) fun x23 =>
          zl (zup μ20 a0 5 x23) fun μ24 =>
          some μ24
        else
          zl (zup μ11 a0 6 (0 : Int32)) fun μ25 =>
          zbd (f_X12_advance_L198 a0 zFU μ25) fun μ37 =>
          zl (if ((μ37 a0 3) - (μ37 a0 4)) ≤ (3 : Int32) then
              (1 : Int32)
            else
              (4 : Int32)) fun x40 =>
          zl (zup μ37 a0 5 x40) fun μ41 =>
          some μ41
      else
        zl (0 : Int64) fun x42 =>
        zbd2 (f_X12_advance_L77 a0 zFU x42 μ11) fun x55 μ56 =>
        zl (if ((μ56 a0 3) - (μ56 a0 4)) ≤ (8 : Int32) then
            (f_X12_wordOf x55)
          else
            (99 : Int32)) fun x59 =>
        zl (zup μ56 a0 7 x59) fun μ60 =>
        zl (if ¬ (μ60 a0 7) = (99 : Int32) then
            (3 : Int32)
          else
            (4 : Int32)) fun x63 =>
        zl (zup μ60 a0 5 x63) fun μ64 =>
        some μ64
    else
      zl (zup μ11 a0 5 (0 : Int32)) fun μ65 =>
      some μ65) fun μ66 =>
  some μ66
set_option maxHeartbeats 4000000 in
set_option maxRecDepth 100000 in
theorem r_X12_advance_L0 {l : Launch} {g : zL} {p : Program} {e : Env} {s : State} {m : MethodId} {args : Array Value} {below : List Frame} {meth : Method} {c : Code} {Q : State → Prop} (C0 : zC p s m args meth c g cX12_advance yX12_advance 4 none) (a0 : Nat) (hU1 : zT zNN zσ1 a0 12) : ∀ (n : Nat) (μ2 : zM) (μ10 : zM), f_X12_advance_L0 a0 n μ2 = some μ10 → Z p l e (zrm 4 0 0) s m args below meth c g Q 4 zNN 0 0 zσ1 μ10 39 [(0, .ref (zb g + a0))] [] → Z p l e (zrm 4 0 0) s m args below meth c g Q 4 zNN 0 0 zσ1 μ2 0 [(0, .ref (zb g + a0))] [] := by
  intro n
  induction n with
  | zero =>
    intro μ2 μ10 h kx
    rw [f_X12_advance_L0] at h
    cases h
  | succ n ih =>
    intro μ2 μ10 h kx
    rw [f_X12_advance_L0] at h
    refine z_aload_n C0 dX12_advance_0 rfl 0 rfl ?_
    refine z_aload_n C0 dX12_advance_1 rfl 0 rfl ?_
    refine z_geti C0 hU1.1 hU1.2.2.1 kf_12_69 zr_12_3 dX12_advance_2 ?_
    obtain ⟨r3, e_r3, h⟩ := zbd_of h
    refine z_callV (As := [.int (μ2 a0 3)]) (rest := []) C0 rfl kc_X12_byteAt km_RX12_72 (r_X12_byteAt (l := l) (g := g) a0 (μ2 a0 3) μ2 hU1 e_r3) hU1.1 hU1.2.2.1 rfl (by decide) rfl (Nat.le_of_ble_eq_true rfl) (Nat.le_of_ble_eq_true rfl) (Nat.le_of_ble_eq_true rfl) (Nat.le_of_ble_eq_true rfl) (Nat.le_refl _) rfl rfl dX12_advance_5 ?_
    refine z_bipush (v := (10 : Int32)) C0 dX12_advance_8 (by decide) ?_
    obtain ⟨b8, e_b8, h⟩ := zbd_of h
    refine z_joinb b8 μ2 39 26 [(0, .ref (zb g + a0))] [] (fun z69 => ?_) (fun z69 => ?_) (fun k67 k68 => ?_)
    · have h := zif_t z69 h
      obtain rfl := (Option.some.inj h)
      exact kx
    · have h := zif_f (fun q => Bool.noConfusion (z69.symm.trans q)) h
      refine z_aload_n C0 dX12_advance_26 rfl 0 rfl ?_
      refine z_dup C0 dX12_advance_27 rfl ?_
      refine z_geti C0 hU1.1 hU1.2.2.1 kf_12_69 zr_12_3 dX12_advance_28 ?_
      refine z_iconst (v := (1 : Int32)) C0 dX12_advance_31 (by decide) ?_
      refine z_iadd C0 dX12_advance_32 ?_
      obtain ⟨μ9, e_μ9, h⟩ := zl_of h
      refine z_puti C0 hU1.1 hU1.2.2.1 kf_12_69 zp_12_3 zr_12_3 e_μ9 dX12_advance_33 ?_
      refine z_goto C0 0 dX12_advance_36 (by decide) ?_
      exact ih _ _ h kx
    · have h := e_b8
      refine z_icmp_eq C0 26 dX12_advance_10 (by decide) (fun c4 => ?_) (fun c4 => ?_)
      · have h := zif_t c4 h
        exact k68 (Option.some.inj h).symm
      · have h := zif_f c4 h
        refine z_aload_n C0 dX12_advance_13 rfl 0 rfl ?_
        refine z_aload_n C0 dX12_advance_14 rfl 0 rfl ?_
        refine z_geti C0 hU1.1 hU1.2.2.1 kf_12_69 zr_12_3 dX12_advance_15 ?_
        obtain ⟨r6, e_r6, h⟩ := zbd_of h
        refine z_callV (As := [.int (μ2 a0 3)]) (rest := []) C0 rfl kc_X12_byteAt km_RX12_72 (r_X12_byteAt (l := l) (g := g) a0 (μ2 a0 3) μ2 hU1 e_r6) hU1.1 hU1.2.2.1 rfl (by decide) rfl (Nat.le_of_ble_eq_true rfl) (Nat.le_of_ble_eq_true rfl) (Nat.le_of_ble_eq_true rfl) (Nat.le_of_ble_eq_true rfl) (Nat.le_refl _) rfl rfl dX12_advance_18 ?_
        refine z_bipush (v := (32 : Int32)) C0 dX12_advance_21 (by decide) ?_
        refine z_icmp_ne C0 39 dX12_advance_23 (by decide) (fun c7 => ?_) (fun c7 => ?_)
        · have h := zif_t c7 h
          exact k67 (Option.some.inj h).symm
        · have h := zif_f (fun q => q c7) h
          exact k68 (Option.some.inj h).symm
set_option maxHeartbeats 4000000 in
set_option maxRecDepth 100000 in
theorem r_X12_advance_L198 {l : Launch} {g : zL} {p : Program} {e : Env} {s : State} {m : MethodId} {args : Array Value} {below : List Frame} {meth : Method} {c : Code} {Q : State → Prop} (C0 : zC p s m args meth c g cX12_advance yX12_advance 4 none) (a0 : Nat) (hU26 : zT zNN zσ1 a0 12) : ∀ (n : Nat) (μ27 : zM) (μ37 : zM), f_X12_advance_L198 a0 n μ27 = some μ37 → Z p l e (zrm 4 0 0) s m args below meth c g Q 4 zNN 0 0 zσ1 μ37 261 [(0, .ref (zb g + a0))] [] → Z p l e (zrm 4 0 0) s m args below meth c g Q 4 zNN 0 0 zσ1 μ27 198 [(0, .ref (zb g + a0))] [] := by
  intro n
  induction n with
  | zero =>
    intro μ27 μ37 h kx
    rw [f_X12_advance_L198] at h
    cases h
  | succ n ih =>
    intro μ27 μ37 h kx
    rw [f_X12_advance_L198] at h
    refine z_aload_n C0 dX12_advance_198 rfl 0 rfl ?_
    refine z_aload_n C0 dX12_advance_199 rfl 0 rfl ?_
    refine z_geti C0 hU26.1 hU26.2.2.1 kf_12_69 zr_12_3 dX12_advance_200 ?_
    obtain ⟨r28, e_r28, h⟩ := zbd_of h
    refine z_callV (As := [.int (μ27 a0 3)]) (rest := []) C0 rfl kc_X12_byteAt km_RX12_72 (r_X12_byteAt (l := l) (g := g) a0 (μ27 a0 3) μ27 hU26 e_r28) hU26.1 hU26.2.2.1 rfl (by decide) rfl (Nat.le_of_ble_eq_true rfl) (Nat.le_of_ble_eq_true rfl) (Nat.le_of_ble_eq_true rfl) (Nat.le_of_ble_eq_true rfl) (Nat.le_refl _) rfl rfl dX12_advance_203 ?_
    refine z_callS (As := [.int r28]) (rest := []) C0 rfl kc_X12_isDigit km_RX12_96 (r_X12_isDigit (l := l) (g := g) (μ := μ27) r28 rfl) rfl (Nat.le_of_ble_eq_true rfl) (Nat.le_of_ble_eq_true rfl) (Nat.le_of_ble_eq_true rfl) (Nat.le_of_ble_eq_true rfl) (Nat.le_refl _) rfl rfl dX12_advance_206 ?_
    refine z_if_eq C0 261 dX12_advance_209 (by decide) (fun c29 => ?_) (fun c29 => ?_)
    · have h := zif_t c29 h
      obtain rfl := (Option.some.inj h)
      exact kx
    · have h := zif_f c29 h
      refine z_aload_n C0 dX12_advance_212 rfl 0 rfl ?_
      refine z_geti C0 hU26.1 hU26.2.2.1 kf_12_69 zr_12_3 dX12_advance_213 ?_
      refine z_aload_n C0 dX12_advance_216 rfl 0 rfl ?_
      refine z_geti C0 hU26.1 hU26.2.2.1 kf_12_76 zr_12_4 dX12_advance_217 ?_
      refine z_isub C0 dX12_advance_220 ?_
      refine z_iconst (v := (3 : Int32)) C0 dX12_advance_221 (by decide) ?_
      obtain ⟨μ35, e_μ35, h⟩ := zbd_of h
      refine z_join μ35 248 [(0, .ref (zb g + a0))] [] ?_ (fun k_J32 => ?_)
      · refine z_aload_n C0 dX12_advance_248 rfl 0 rfl ?_
        refine z_dup C0 dX12_advance_249 rfl ?_
        refine z_geti C0 hU26.1 hU26.2.2.1 kf_12_69 zr_12_3 dX12_advance_250 ?_
        refine z_iconst (v := (1 : Int32)) C0 dX12_advance_253 (by decide) ?_
        refine z_iadd C0 dX12_advance_254 ?_
        obtain ⟨μ36, e_μ36, h⟩ := zl_of h
        refine z_puti C0 hU26.1 hU26.2.2.1 kf_12_69 zp_12_3 zr_12_3 e_μ36 dX12_advance_255 ?_
        refine z_goto C0 198 dX12_advance_258 (by decide) ?_
        exact ih _ _ h kx
      · have h := e_μ35
        refine z_icmp_ge C0 248 dX12_advance_222 (by decide) (fun c31 => ?_) (fun c31 => ?_)
        · have h := zif_t c31 h
          obtain rfl := (Option.some.inj h)
          exact k_J32
        · have h := zif_f c31 h
          refine z_aload_n C0 dX12_advance_225 rfl 0 rfl ?_
          refine z_bipush (v := (10 : Int32)) C0 dX12_advance_226 (by decide) ?_
          refine z_aload_n C0 dX12_advance_228 rfl 0 rfl ?_
          refine z_geti C0 hU26.1 hU26.2.2.1 kf_12_99 zr_12_6 dX12_advance_229 ?_
          refine z_imul C0 dX12_advance_232 ?_
          refine z_aload_n C0 dX12_advance_233 rfl 0 rfl ?_
          refine z_aload_n C0 dX12_advance_234 rfl 0 rfl ?_
          refine z_geti C0 hU26.1 hU26.2.2.1 kf_12_69 zr_12_3 dX12_advance_235 ?_
          obtain ⟨r33, e_r33, h⟩ := zbd_of h
          refine z_callV (As := [.int (μ27 a0 3)]) (rest := [.int ((10 : Int32) * (μ27 a0 6)), .ref (zb g + a0)]) C0 rfl kc_X12_byteAt km_RX12_72 (r_X12_byteAt (l := l) (g := g) a0 (μ27 a0 3) μ27 hU26 e_r33) hU26.1 hU26.2.2.1 rfl (by decide) rfl (Nat.le_of_ble_eq_true rfl) (Nat.le_of_ble_eq_true rfl) (Nat.le_of_ble_eq_true rfl) (Nat.le_of_ble_eq_true rfl) (Nat.le_refl _) rfl rfl dX12_advance_238 ?_
          refine z_iadd C0 dX12_advance_241 ?_
          refine z_bipush (v := (48 : Int32)) C0 dX12_advance_242 (by decide) ?_
          refine z_isub C0 dX12_advance_244 ?_
          obtain ⟨μ34, e_μ34, h⟩ := zl_of h
          refine z_puti C0 hU26.1 hU26.2.2.1 kf_12_99 zp_12_6 zr_12_6 e_μ34 dX12_advance_245 ?_
          obtain rfl := (Option.some.inj h)
          exact k_J32
set_option maxHeartbeats 4000000 in
set_option maxRecDepth 100000 in
theorem r_X12_advance_L77 {l : Launch} {g : zL} {p : Program} {e : Env} {s : State} {m : MethodId} {args : Array Value} {below : List Frame} {meth : Method} {c : Code} {Q : State → Prop} (C0 : zC p s m args meth c g cX12_advance yX12_advance 4 none) (a0 : Nat) (hU43 : zT zNN zσ1 a0 12) : ∀ (n : Nat) (y44 : Int64) (μ45 : zM) (x55 : Int64) (μ56 : zM), f_X12_advance_L77 a0 n y44 μ45 = some (x55, μ56) → Z p l e (zrm 4 0 0) s m args below meth c g Q 4 zNN 0 0 zσ1 μ56 138 [(0, .ref (zb g + a0)), (2, .long x55)] [] → Z p l e (zrm 4 0 0) s m args below meth c g Q 4 zNN 0 0 zσ1 μ45 77 [(0, .ref (zb g + a0)), (2, .long y44)] [] := by
  intro n
  induction n with
  | zero =>
    intro y44 μ45 x55 μ56 h kx
    rw [f_X12_advance_L77] at h
    cases h
  | succ n ih =>
    intro y44 μ45 x55 μ56 h kx
    rw [f_X12_advance_L77] at h
    refine z_aload_n C0 dX12_advance_77 rfl 0 rfl ?_
    refine z_aload_n C0 dX12_advance_78 rfl 0 rfl ?_
    refine z_geti C0 hU43.1 hU43.2.2.1 kf_12_69 zr_12_3 dX12_advance_79 ?_
    obtain ⟨r46, e_r46, h⟩ := zbd_of h
    refine z_callV (As := [.int (μ45 a0 3)]) (rest := []) C0 rfl kc_X12_byteAt km_RX12_72 (r_X12_byteAt (l := l) (g := g) a0 (μ45 a0 3) μ45 hU43 e_r46) hU43.1 hU43.2.2.1 rfl (by decide) rfl (Nat.le_of_ble_eq_true rfl) (Nat.le_of_ble_eq_true rfl) (Nat.le_of_ble_eq_true rfl) (Nat.le_of_ble_eq_true rfl) (Nat.le_refl _) rfl rfl dX12_advance_82 ?_
    refine z_callS (As := [.int r46]) (rest := []) C0 rfl kc_X12_isLetter km_RX12_82 (r_X12_isLetter (l := l) (g := g) (μ := μ45) r46 rfl) rfl (Nat.le_of_ble_eq_true rfl) (Nat.le_of_ble_eq_true rfl) (Nat.le_of_ble_eq_true rfl) (Nat.le_of_ble_eq_true rfl) (Nat.le_refl _) rfl rfl dX12_advance_85 ?_
    refine z_if_eq C0 138 dX12_advance_88 (by decide) (fun c47 => ?_) (fun c47 => ?_)
    · have h := zif_t c47 h
      obtain ⟨rfl, rfl⟩ := Prod.mk.inj (Option.some.inj h)
      exact kx
    · have h := zif_f c47 h
      refine z_aload_n C0 dX12_advance_91 rfl 0 rfl ?_
      refine z_geti C0 hU43.1 hU43.2.2.1 kf_12_69 zr_12_3 dX12_advance_92 ?_
      refine z_aload_n C0 dX12_advance_95 rfl 0 rfl ?_
      refine z_geti C0 hU43.1 hU43.2.2.1 kf_12_76 zr_12_4 dX12_advance_96 ?_
      refine z_isub C0 dX12_advance_99 ?_
      refine z_bipush (v := (8 : Int32)) C0 dX12_advance_100 (by decide) ?_
      obtain ⟨x53, e_x53, h⟩ := zbd_of h
      refine z_join μ45 125 [(0, .ref (zb g + a0)), (2, .long x53)] [] ?_ (fun k_J50 => ?_)
      · refine z_aload_n C0 dX12_advance_125 rfl 0 rfl ?_
        refine z_dup C0 dX12_advance_126 rfl ?_
        refine z_geti C0 hU43.1 hU43.2.2.1 kf_12_69 zr_12_3 dX12_advance_127 ?_
        refine z_iconst (v := (1 : Int32)) C0 dX12_advance_130 (by decide) ?_
        refine z_iadd C0 dX12_advance_131 ?_
        obtain ⟨μ54, e_μ54, h⟩ := zl_of h
        refine z_puti C0 hU43.1 hU43.2.2.1 kf_12_69 zp_12_3 zr_12_3 e_μ54 dX12_advance_132 ?_
        refine z_goto C0 77 dX12_advance_135 (by decide) ?_
        exact ih _ _ _ _ h kx
      · have h := e_x53
        refine z_icmp_ge C0 125 dX12_advance_102 (by decide) (fun c49 => ?_) (fun c49 => ?_)
        · have h := zif_t c49 h
          obtain rfl := (Option.some.inj h)
          exact k_J50
        · have h := zif_f c49 h
          refine z_ldc2 C0 dX12_advance_105 kk_RX12_86 ?_
          refine z_lload_n C0 dX12_advance_108 rfl 1 rfl ?_
          refine z_lmul C0 dX12_advance_109 ?_
          refine z_aload_n C0 dX12_advance_110 rfl 0 rfl ?_
          refine z_aload_n C0 dX12_advance_111 rfl 0 rfl ?_
          refine z_geti C0 hU43.1 hU43.2.2.1 kf_12_69 zr_12_3 dX12_advance_112 ?_
          obtain ⟨r51, e_r51, h⟩ := zbd_of h
          refine z_callV (As := [.int (μ45 a0 3)]) (rest := [.long ((32 : Int64) * y44)]) C0 rfl kc_X12_byteAt km_RX12_72 (r_X12_byteAt (l := l) (g := g) a0 (μ45 a0 3) μ45 hU43 e_r51) hU43.1 hU43.2.2.1 rfl (by decide) rfl (Nat.le_of_ble_eq_true rfl) (Nat.le_of_ble_eq_true rfl) (Nat.le_of_ble_eq_true rfl) (Nat.le_of_ble_eq_true rfl) (Nat.le_refl _) rfl rfl dX12_advance_115 ?_
          refine z_i2l C0 dX12_advance_118 ?_
          refine z_ladd C0 dX12_advance_119 ?_
          refine z_ldc2 C0 dX12_advance_120 kk_RX12_88 ?_
          refine z_lsub C0 dX12_advance_123 ?_
          obtain ⟨x52, e_x52, h⟩ := zl_of h
          refine z_nml e_x52 ?_
          refine z_lstore_n (lo1 := [(2, .long x52), (0, .ref (zb g + a0))]) C0 dX12_advance_124 rfl (by decide) rfl ?_
          refine z_sub (lo1 := [(0, .ref (zb g + a0)), (2, .long x52)]) [1, 0] rfl ?_
          obtain rfl := (Option.some.inj h)
          exact k_J50
set_option maxHeartbeats 4000000 in
set_option maxRecDepth 100000 in
theorem r_X12_advance {l : Launch} {g : zL} (a0 : Nat) (μ : zM) (hT0 : zT zNN zσ1 a0 12) {μr : zM} (h : f_X12_advance a0 μ = some μr) : zMet l g yX12_advance cX12_advance 4 none 4 0 0 zNN zNN zσ1 zσ1 [.ref (zb g + a0)] μ none μr := by
  refine zMet.of (by decide +kernel) (Nat.le_of_ble_eq_true rfl) ?_
  intro p e s m args below meth c C0
  refine z_loc (lo1 := [(0, .ref (zb g + a0))]) rfl ?_
  unfold f_X12_advance at h
  obtain ⟨μ10, e_μ10, h⟩ := zbd_of h
  refine r_X12_advance_L0 C0 a0 hT0 zFU μ μ10 e_μ10 ?_
  refine z_aload_n C0 dX12_advance_39 rfl 0 rfl ?_
  refine z_aload_n C0 dX12_advance_40 rfl 0 rfl ?_
  refine z_geti C0 hT0.1 hT0.2.2.1 kf_12_69 zr_12_3 dX12_advance_41 ?_
  obtain ⟨μ11, e_μ11, h⟩ := zl_of h
  refine z_puti C0 hT0.1 hT0.2.2.1 kf_12_76 zp_12_4 zr_12_4 e_μ11 dX12_advance_44 ?_
  refine z_aload_n C0 dX12_advance_47 rfl 0 rfl ?_
  refine z_aload_n C0 dX12_advance_48 rfl 0 rfl ?_
  refine z_geti C0 hT0.1 hT0.2.2.1 kf_12_69 zr_12_3 dX12_advance_49 ?_
  obtain ⟨r12, e_r12, h⟩ := zbd_of h
  refine z_callV (As := [.int (μ11 a0 3)]) (rest := []) C0 rfl kc_X12_byteAt km_RX12_72 (r_X12_byteAt (l := l) (g := g) a0 (μ11 a0 3) μ11 hT0 e_r12) hT0.1 hT0.2.2.1 rfl (by decide) rfl (Nat.le_of_ble_eq_true rfl) (Nat.le_of_ble_eq_true rfl) (Nat.le_of_ble_eq_true rfl) (Nat.le_of_ble_eq_true rfl) (Nat.le_refl _) rfl rfl dX12_advance_52 ?_
  refine z_istore_n (lo1 := [(1, .int r12), (0, .ref (zb g + a0))]) C0 dX12_advance_55 rfl (by decide) rfl ?_
  refine z_iload_n C0 dX12_advance_56 rfl 0 rfl ?_
  obtain ⟨μ66, e_μ66, h⟩ := zbd_of h
  refine z_join μ66 311 [] [] ?_ (fun k_J16 => ?_)
  · have h := Option.some.inj h
    obtain rfl := h
    exact z_vret C0 rfl dX12_advance_311
  · have h := e_μ66
    refine z_if_ge C0 68 dX12_advance_57 (by decide) (fun c13 => ?_) (fun c13 => ?_)
    · have h := zif_t c13 h
      refine z_iload_n C0 dX12_advance_68 rfl 0 rfl ?_
      refine z_callS (As := [.int r12]) (rest := []) C0 rfl kc_X12_isLetter km_RX12_82 (r_X12_isLetter (l := l) (g := g) (μ := μ11) r12 rfl) rfl (Nat.le_of_ble_eq_true rfl) (Nat.le_of_ble_eq_true rfl) (Nat.le_of_ble_eq_true rfl) (Nat.le_of_ble_eq_true rfl) (Nat.le_refl _) rfl rfl dX12_advance_69 ?_
      refine z_if_eq C0 186 dX12_advance_72 (by decide) (fun c17 => ?_) (fun c17 => ?_)
      · have h := zif_t c17 h
        refine z_iload_n C0 dX12_advance_186 rfl 0 rfl ?_
        refine z_callS (As := [.int r12]) (rest := []) C0 rfl kc_X12_isDigit km_RX12_96 (r_X12_isDigit (l := l) (g := g) (μ := μ11) r12 rfl) rfl (Nat.le_of_ble_eq_true rfl) (Nat.le_of_ble_eq_true rfl) (Nat.le_of_ble_eq_true rfl) (Nat.le_of_ble_eq_true rfl) (Nat.le_refl _) rfl rfl dX12_advance_187 ?_
        refine z_if_eq C0 286 dX12_advance_190 (by decide) (fun c19 => ?_) (fun c19 => ?_)
        · have h := zif_t c19 h
          refine z_aload_n C0 dX12_advance_286 rfl 1 rfl ?_
          refine z_dup C0 dX12_advance_287 rfl ?_
          refine z_geti C0 hT0.1 hT0.2.2.1 kf_12_69 zr_12_3 dX12_advance_288 ?_
          refine z_iconst (v := (1 : Int32)) C0 dX12_advance_291 (by decide) ?_
          refine z_iadd C0 dX12_advance_292 ?_
          obtain ⟨μ20, e_μ20, h⟩ := zl_of h
          refine z_puti C0 hT0.1 hT0.2.2.1 kf_12_69 zp_12_3 zr_12_3 e_μ20 dX12_advance_293 ?_
          refine z_aload_n C0 dX12_advance_296 rfl 1 rfl ?_
          refine z_iload_n C0 dX12_advance_297 rfl 0 rfl ?_
          refine z_bipush (v := (59 : Int32)) C0 dX12_advance_298 (by decide) ?_
          obtain ⟨x23, e_x23, h⟩ := zl_of h
          refine z_join μ20 308 [] [.int x23, .ref (zb g + a0)] ?_ (fun k_J22 => ?_)
          · obtain ⟨μ24, e_μ24, h⟩ := zl_of h
            refine z_puti C0 hT0.1 hT0.2.2.1 kf_12_79 zp_12_5 zr_12_5 e_μ24 dX12_advance_308 ?_
            obtain rfl := (Option.some.inj h)
            exact k_J16
          · have h := e_x23.symm
            refine z_icmp_ne C0 307 dX12_advance_300 (by decide) (fun c21 => ?_) (fun c21 => ?_)
            · have h := zif_t c21 h
              refine z_iconst (v := (4 : Int32)) C0 dX12_advance_307 (by decide) ?_
              refine z_sub (lo1 := []) [] rfl ?_
              obtain rfl := h
              exact k_J22
            · have h := zif_f (fun q => q c21) h
              refine z_iconst (v := (2 : Int32)) C0 dX12_advance_303 (by decide) ?_
              refine z_goto C0 308 dX12_advance_304 (by decide) ?_
              refine z_sub (lo1 := []) [] rfl ?_
              obtain rfl := h
              exact k_J22
        · have h := zif_f c19 h
          refine z_aload_n C0 dX12_advance_193 rfl 1 rfl ?_
          refine z_iconst (v := (0 : Int32)) C0 dX12_advance_194 (by decide) ?_
          obtain ⟨μ25, e_μ25, h⟩ := zl_of h
          refine z_puti C0 hT0.1 hT0.2.2.1 kf_12_99 zp_12_6 zr_12_6 e_μ25 dX12_advance_195 ?_
          refine z_sub (lo1 := [(0, .ref (zb g + a0))]) [1] rfl ?_
          obtain ⟨μ37, e_μ37, h⟩ := zbd_of h
          refine r_X12_advance_L198 C0 a0 hT0 zFU μ25 μ37 e_μ37 ?_
          refine z_aload_n C0 dX12_advance_261 rfl 0 rfl ?_
          refine z_aload_n C0 dX12_advance_262 rfl 0 rfl ?_
          refine z_geti C0 hT0.1 hT0.2.2.1 kf_12_69 zr_12_3 dX12_advance_263 ?_
          refine z_aload_n C0 dX12_advance_266 rfl 0 rfl ?_
          refine z_geti C0 hT0.1 hT0.2.2.1 kf_12_76 zr_12_4 dX12_advance_267 ?_
          refine z_isub C0 dX12_advance_270 ?_
          refine z_iconst (v := (3 : Int32)) C0 dX12_advance_271 (by decide) ?_
          obtain ⟨x40, e_x40, h⟩ := zl_of h
          refine z_join μ37 280 [] [.int x40, .ref (zb g + a0)] ?_ (fun k_J39 => ?_)
          · obtain ⟨μ41, e_μ41, h⟩ := zl_of h
            refine z_puti C0 hT0.1 hT0.2.2.1 kf_12_79 zp_12_5 zr_12_5 e_μ41 dX12_advance_280 ?_
            refine z_goto C0 311 dX12_advance_283 (by decide) ?_
            obtain rfl := (Option.some.inj h)
            exact k_J16
          · have h := e_x40.symm
            refine z_icmp_le C0 279 dX12_advance_272 (by decide) (fun c38 => ?_) (fun c38 => ?_)
            · have h := zif_t c38 h
              refine z_iconst (v := (1 : Int32)) C0 dX12_advance_279 (by decide) ?_
              refine z_sub (lo1 := []) [] rfl ?_
              obtain rfl := h
              exact k_J39
            · have h := zif_f c38 h
              refine z_iconst (v := (4 : Int32)) C0 dX12_advance_275 (by decide) ?_
              refine z_goto C0 280 dX12_advance_276 (by decide) ?_
              refine z_sub (lo1 := []) [] rfl ?_
              obtain rfl := h
              exact k_J39
      · have h := zif_f c17 h
        refine z_lconst (v := (0 : Int64)) C0 dX12_advance_75 (by decide) ?_
        obtain ⟨x42, e_x42, h⟩ := zl_of h
        refine z_nml e_x42 ?_
        refine z_lstore_n (lo1 := [(2, .long x42), (1, .int r12), (0, .ref (zb g + a0))]) C0 dX12_advance_76 rfl (by decide) rfl ?_
        refine z_sub (lo1 := [(0, .ref (zb g + a0)), (2, .long x42)]) [2, 0] rfl ?_
        obtain ⟨x55, μ56, e_x55, h⟩ := zbd2_of h
        refine r_X12_advance_L77 C0 a0 hT0 zFU x42 μ11 x55 μ56 e_x55 ?_
        refine z_aload_n C0 dX12_advance_138 rfl 0 rfl ?_
        refine z_aload_n C0 dX12_advance_139 rfl 0 rfl ?_
        refine z_geti C0 hT0.1 hT0.2.2.1 kf_12_69 zr_12_3 dX12_advance_140 ?_
        refine z_aload_n C0 dX12_advance_143 rfl 0 rfl ?_
        refine z_geti C0 hT0.1 hT0.2.2.1 kf_12_76 zr_12_4 dX12_advance_144 ?_
        refine z_isub C0 dX12_advance_147 ?_
        refine z_bipush (v := (8 : Int32)) C0 dX12_advance_148 (by decide) ?_
        obtain ⟨x59, e_x59, h⟩ := zl_of h
        refine z_join μ56 162 [(0, .ref (zb g + a0))] [.int x59, .ref (zb g + a0)] ?_ (fun k_J58 => ?_)
        · obtain ⟨μ60, e_μ60, h⟩ := zl_of h
          refine z_puti C0 hT0.1 hT0.2.2.1 kf_12_93 zp_12_7 zr_12_7 e_μ60 dX12_advance_162 ?_
          refine z_aload_n C0 dX12_advance_165 rfl 0 rfl ?_
          refine z_aload_n C0 dX12_advance_166 rfl 0 rfl ?_
          refine z_geti C0 hT0.1 hT0.2.2.1 kf_12_93 zr_12_7 dX12_advance_167 ?_
          refine z_bipush (v := (99 : Int32)) C0 dX12_advance_170 (by decide) ?_
          obtain ⟨x63, e_x63, h⟩ := zl_of h
          refine z_join μ60 180 [] [.int x63, .ref (zb g + a0)] ?_ (fun k_J62 => ?_)
          · obtain ⟨μ64, e_μ64, h⟩ := zl_of h
            refine z_puti C0 hT0.1 hT0.2.2.1 kf_12_79 zp_12_5 zr_12_5 e_μ64 dX12_advance_180 ?_
            refine z_goto C0 311 dX12_advance_183 (by decide) ?_
            obtain rfl := (Option.some.inj h)
            exact k_J16
          · have h := e_x63.symm
            refine z_icmp_ne C0 179 dX12_advance_172 (by decide) (fun c61 => ?_) (fun c61 => ?_)
            · have h := zif_t c61 h
              refine z_iconst (v := (3 : Int32)) C0 dX12_advance_179 (by decide) ?_
              refine z_sub (lo1 := []) [] rfl ?_
              obtain rfl := h
              exact k_J62
            · have h := zif_f (fun q => q c61) h
              refine z_iconst (v := (4 : Int32)) C0 dX12_advance_175 (by decide) ?_
              refine z_goto C0 180 dX12_advance_176 (by decide) ?_
              refine z_sub (lo1 := []) [] rfl ?_
              obtain rfl := h
              exact k_J62
        · have h := e_x59.symm
          refine z_icmp_le C0 158 dX12_advance_150 (by decide) (fun c57 => ?_) (fun c57 => ?_)
          · have h := zif_t c57 h
            refine z_lload_n C0 dX12_advance_158 rfl 1 rfl ?_
            refine z_callS (As := [.long x55]) (rest := [.ref (zb g + a0)]) C0 rfl kc_X12_wordOf km_RX12_90 (r_X12_wordOf (l := l) (g := g) (μ := μ56) x55 rfl) rfl (Nat.le_of_ble_eq_true rfl) (Nat.le_of_ble_eq_true rfl) (Nat.le_of_ble_eq_true rfl) (Nat.le_of_ble_eq_true rfl) (Nat.le_refl _) rfl rfl dX12_advance_159 ?_
            refine z_sub (lo1 := [(0, .ref (zb g + a0))]) [0] rfl ?_
            obtain rfl := h
            exact k_J58
          · have h := zif_f c57 h
            refine z_bipush (v := (99 : Int32)) C0 dX12_advance_153 (by decide) ?_
            refine z_goto C0 162 dX12_advance_155 (by decide) ?_
            refine z_sub (lo1 := [(0, .ref (zb g + a0))]) [0] rfl ?_
            obtain rfl := h
            exact k_J58
    · have h := zif_f c13 h
      refine z_aload_n C0 dX12_advance_60 rfl 1 rfl ?_
      refine z_iconst (v := (0 : Int32)) C0 dX12_advance_61 (by decide) ?_
      obtain ⟨μ65, e_μ65, h⟩ := zl_of h
      refine z_puti C0 hT0.1 hT0.2.2.1 kf_12_79 zp_12_5 zr_12_5 e_μ65 dX12_advance_62 ?_
      refine z_goto C0 311 dX12_advance_65 (by decide) ?_
      refine z_sub (lo1 := []) [] rfl ?_
      obtain rfl := (Option.some.inj h)
      exact k_J16
def f_X12_isIn (v0 : Int32) (v1 : Int32) (v2 : Int32) : Int32 :=
  zl (if (¬ (v0 < v1)) ∧ (¬ (v2 < v0)) then
      (1 : Int32)
    else
      (0 : Int32)) fun x4 =>
  x4
set_option maxHeartbeats 4000000 in
set_option maxRecDepth 100000 in
theorem r_X12_isIn {l : Launch} {g : zL} (v0 : Int32) (v1 : Int32) (v2 : Int32) {μ : zM}  {rv : Int32} (h : f_X12_isIn v0 v1 v2 = rv) : zMet l g yX12_isIn cX12_isIn 3 (some (.boolean)) 0 0 0 zNN zNN zσ1 zσ1 [.int v0, .int v1, .int v2] μ (some (.int rv)) μ := by
  refine zMet.of (by decide +kernel) (Nat.le_of_ble_eq_true rfl) ?_
  intro p e s m args below meth c C0
  refine z_loc (lo1 := [(0, .int v0), (1, .int v1), (2, .int v2)]) rfl ?_
  unfold f_X12_isIn at h
  refine z_iload_n C0 dX12_isIn_0 rfl 0 rfl ?_
  refine z_iload_n C0 dX12_isIn_1 rfl 1 rfl ?_
  obtain ⟨x4, e_x4, h⟩ := zl_of h
  refine z_join μ 15 [] [.int x4] ?_ (fun k_J3 => ?_)
  · skip
    obtain rfl := h
    exact z_zret C0 rfl (by rw [e_x4]; repeat' split <;> rfl) dX12_isIn_15
  · have h := e_x4.symm
    by_cases hc5 : (¬ (v0 < v1)) ∧ (¬ (v2 < v0))
    · have h := zif_t hc5 h
      refine z_join μ 10 [(0, .int v0), (1, .int v1), (2, .int v2)] [] ?_ (fun k6 => ?_)
      · refine z_iconst (v := (1 : Int32)) C0 dX12_isIn_10 (by decide) ?_
        refine z_goto C0 15 dX12_isIn_11 (by decide) ?_
        refine z_sub (lo1 := []) [] rfl ?_
        obtain rfl := h
        exact k_J3
      · refine z_icmp_lt C0 14 dX12_isIn_2 (by decide) (fun c1 => ?_) (fun c1 => ?_)
        · exact absurd hc5 (fun q => q.1 c1)
        · refine z_iload_n C0 dX12_isIn_5 rfl 0 rfl ?_
          refine z_iload_n C0 dX12_isIn_6 rfl 2 rfl ?_
          refine z_icmp_gt C0 14 dX12_isIn_7 (by decide) (fun c2 => ?_) (fun c2 => ?_)
          · exact absurd hc5 (fun q => (fun q => q c2) q.2)
          · exact k6
    · have h := zif_f hc5 h
      refine z_join μ 14 [(0, .int v0), (1, .int v1), (2, .int v2)] [] ?_ (fun k7 => ?_)
      · refine z_iconst (v := (0 : Int32)) C0 dX12_isIn_14 (by decide) ?_
        refine z_sub (lo1 := []) [] rfl ?_
        obtain rfl := h
        exact k_J3
      · refine z_icmp_lt C0 14 dX12_isIn_2 (by decide) (fun c1 => ?_) (fun c1 => ?_)
        · exact k7
        · refine z_iload_n C0 dX12_isIn_5 rfl 0 rfl ?_
          refine z_iload_n C0 dX12_isIn_6 rfl 2 rfl ?_
          refine z_icmp_gt C0 14 dX12_isIn_7 (by decide) (fun c2 => ?_) (fun c2 => ?_)
          · exact k7
          · exact absurd ⟨c1, c2⟩ hc5
def f_X12_again_L22 (a0 : Nat) (v1 : Int32) : Nat → Int32 → zM → Option (zM)
  | 0, _, _ => none
  | n + 1, y7, μ8 =>
    if (1172 : Int32) ≤ y7 then
      some μ8
    else
      zg (zin (((1172 : Int32) * (v1 + (1 : Int32))) + y7) 4688) <|
      zg (zin y7 4688) <|
      zl (zup μ8 (a0 + 1) (y7.toNatClampNeg) (μ8 (a0 + 1) ((((1172 : Int32) * (v1 + (1 : Int32))) + y7).toNatClampNeg))) fun μ12 =>
      zl (y7 + (1 : Int32)) fun x13 =>
      f_X12_again_L22 a0 v1 n x13 μ12
def f_X12_again (a0 : Nat) (v1 : Int32) (μ : zM) : Option (Int32 × zM) :=
  zbd (if (f_X12_isIn v1 (0 : Int32) (2 : Int32)) = 0 then
      some false
    else
      zg (zin v1 3) <|
      if ¬ (μ (a0 + 2) (v1.toNatClampNeg)) = 0 then
        some true
      else
        some false) fun b5 =>
  if b5 = true then
    zbd (f_X12_again_L22 a0 v1 zFU (0 : Int32) μ) fun μ14 =>
    some ((1 : Int32), μ14)
  else
    some ((0 : Int32), μ)
set_option maxHeartbeats 4000000 in
set_option maxRecDepth 100000 in
theorem r_X12_again_L22 {l : Launch} {g : zL} {p : Program} {e : Env} {s : State} {m : MethodId} {args : Array Value} {below : List Frame} {meth : Method} {c : Code} {Q : State → Prop} (C0 : zC p s m args meth c g cX12_again yX12_again 3 (some (.boolean))) (a0 : Nat) (v1 : Int32) (hU6 : zT zNN zσ1 a0 12) : ∀ (n : Nat) (y7 : Int32) (μ8 : zM) (μ14 : zM), f_X12_again_L22 a0 v1 n y7 μ8 = some μ14 → Z p l e (zrm 1 0 0) s m args below meth c g Q 3 zNN 0 0 zσ1 μ14 55 [] [] → Z p l e (zrm 1 0 0) s m args below meth c g Q 3 zNN 0 0 zσ1 μ8 22 [(0, .ref (zb g + a0)), (1, .int v1), (2, .int y7)] [] := by
  intro n
  induction n with
  | zero =>
    intro y7 μ8 μ14 h kx
    rw [f_X12_again_L22] at h
    cases h
  | succ n ih =>
    intro y7 μ8 μ14 h kx
    rw [f_X12_again_L22] at h
    refine z_iload_n C0 dX12_again_22 rfl 2 rfl ?_
    refine z_sipush (v := (1172 : Int32)) C0 dX12_again_23 (by decide) ?_
    refine z_icmp_ge C0 55 dX12_again_26 (by decide) (fun c9 => ?_) (fun c9 => ?_)
    · have h := zif_t c9 h
      refine z_sub (lo1 := []) [] rfl ?_
      obtain rfl := (Option.some.inj h)
      exact kx
    · have h := zif_f c9 h
      refine z_aload_n C0 dX12_again_29 rfl 0 rfl ?_
      refine z_getr C0 hU6 kf_12_7 zr_12_0 zx_12 (zs_12_0 hU6).1 dX12_again_30 ?_
      refine z_iload_n C0 dX12_again_33 rfl 2 rfl ?_
      refine z_aload_n C0 dX12_again_34 rfl 0 rfl ?_
      refine z_getr C0 hU6 kf_12_7 zr_12_0 zx_12 (zs_12_0 hU6).1 dX12_again_35 ?_
      refine z_sipush (v := (1172 : Int32)) C0 dX12_again_38 (by decide) ?_
      refine z_iload_n C0 dX12_again_41 rfl 1 rfl ?_
      refine z_iconst (v := (1 : Int32)) C0 dX12_again_42 (by decide) ?_
      refine z_iadd C0 dX12_again_43 ?_
      refine z_imul C0 dX12_again_44 ?_
      refine z_iload_n C0 dX12_again_45 rfl 2 rfl ?_
      refine z_iadd C0 dX12_again_46 ?_
      obtain ⟨g10, h⟩ := zg_of h
      refine z_iald C0 (zs_12_0 hU6).2 g10 rfl dX12_again_47 ?_
      obtain ⟨g11, h⟩ := zg_of h
      obtain ⟨μ12, e_μ12, h⟩ := zl_of h
      refine z_iast C0 (zs_12_0 hU6).2 g11 rfl e_μ12 dX12_again_48 ?_
      obtain ⟨x13, e_x13, h⟩ := zl_of h
      refine z_iinc (lo1 := [(2, .int x13), (0, .ref (zb g + a0)), (1, .int v1)]) C0 dX12_again_49 2 rfl (by decide) e_x13.symm (by decide) rfl ?_
      refine z_goto C0 22 dX12_again_52 (by decide) ?_
      refine z_sub (lo1 := [(0, .ref (zb g + a0)), (1, .int v1), (2, .int x13)]) [1, 2, 0] rfl ?_
      exact ih _ _ _ h kx
set_option maxHeartbeats 4000000 in
set_option maxRecDepth 100000 in
theorem r_X12_again {l : Launch} {g : zL} (a0 : Nat) (v1 : Int32) (μ : zM) (hT0 : zT zNN zσ1 a0 12) {rv : Int32} {μr : zM} (h : f_X12_again a0 v1 μ = some (rv, μr)) : zMet l g yX12_again cX12_again 3 (some (.boolean)) 1 0 0 zNN zNN zσ1 zσ1 [.ref (zb g + a0), .int v1] μ (some (.int rv)) μr := by
  refine zMet.of (by decide +kernel) (Nat.le_of_ble_eq_true rfl) ?_
  intro p e s m args below meth c C0
  refine z_loc (lo1 := [(0, .ref (zb g + a0)), (1, .int v1)]) rfl ?_
  unfold f_X12_again at h
  refine z_iload_n C0 dX12_again_0 rfl 1 rfl ?_
  refine z_iconst (v := (0 : Int32)) C0 dX12_again_1 (by decide) ?_
  refine z_iconst (v := (2 : Int32)) C0 dX12_again_2 (by decide) ?_
  refine z_callS (As := [.int v1, .int (0 : Int32), .int (2 : Int32)]) (rest := []) C0 rfl kc_X12_isIn km_RX12_109 (r_X12_isIn (l := l) (g := g) (μ := μ) v1 (0 : Int32) (2 : Int32) rfl) rfl (Nat.le_of_ble_eq_true rfl) (Nat.le_of_ble_eq_true rfl) (Nat.le_of_ble_eq_true rfl) (Nat.le_of_ble_eq_true rfl) (Nat.le_refl _) rfl rfl dX12_again_3 ?_
  obtain ⟨b5, e_b5, h⟩ := zbd_of h
  refine z_joinb b5 μ 20 18 [(0, .ref (zb g + a0)), (1, .int v1)] [] (fun z17 => ?_) (fun z17 => ?_) (fun k15 k16 => ?_)
  · have h := zif_t z17 h
    refine z_iconst (v := (0 : Int32)) C0 dX12_again_20 (by decide) ?_
    refine z_istore_n (lo1 := [(2, .int (0 : Int32)), (0, .ref (zb g + a0)), (1, .int v1)]) C0 dX12_again_21 rfl (by decide) rfl ?_
    refine z_sub (lo1 := [(0, .ref (zb g + a0)), (1, .int v1), (2, .int (0 : Int32))]) [1, 2, 0] rfl ?_
    obtain ⟨μ14, e_μ14, h⟩ := zbd_of h
    refine r_X12_again_L22 C0 a0 v1 hT0 zFU (0 : Int32) μ μ14 e_μ14 ?_
    refine z_iconst (v := (1 : Int32)) C0 dX12_again_55 (by decide) ?_
    have h := Option.some.inj h
    obtain ⟨rfl, rfl⟩ := Prod.mk.inj h
    exact z_zret C0 rfl (by decide) dX12_again_56
  · have h := zif_f (fun q => Bool.noConfusion (z17.symm.trans q)) h
    refine z_iconst (v := (0 : Int32)) C0 dX12_again_18 (by decide) ?_
    have h := Option.some.inj h
    obtain ⟨rfl, rfl⟩ := Prod.mk.inj h
    exact z_zret C0 rfl (by decide) dX12_again_19
  · have h := e_b5
    refine z_if_eq C0 18 dX12_again_6 (by decide) (fun c1 => ?_) (fun c1 => ?_)
    · have h := zif_t c1 h
      exact k16 (Option.some.inj h).symm
    · have h := zif_f c1 h
      refine z_aload_n C0 dX12_again_9 rfl 0 rfl ?_
      refine z_getr C0 hT0 kf_12_13 zr_12_1 zx_12 (zs_12_1 hT0).1 dX12_again_10 ?_
      refine z_iload_n C0 dX12_again_13 rfl 1 rfl ?_
      obtain ⟨g3, h⟩ := zg_of h
      refine z_bald C0 (zs_12_1 hT0).2 g3 rfl dX12_again_14 ?_
      refine z_if_ne C0 20 dX12_again_15 (by decide) (fun c4 => ?_) (fun c4 => ?_)
      · have h := zif_t c4 h
        exact k15 (Option.some.inj h).symm
      · have h := zif_f (fun q => q c4) h
        exact k16 (Option.some.inj h).symm
def f_X12_allGraves_L4 (a0 : Nat) (μ4 : zM) : Nat → Int32 → Int32 → Option (Int32)
  | 0, _, _ => none
  | n + 1, y2, y3 =>
    zbd (f_X12_of a0 (12 : Int32) μ4) fun r5 =>
    if r5 ≤ y3 then
      some y2
    else
      zbd (f_X12_of a0 (((56 : Int32) + ((2 : Int32) * y3)) + (1 : Int32)) μ4) fun r7 =>
      zl (y2 + r7) fun x8 =>
      zl (y3 + (1 : Int32)) fun x9 =>
      f_X12_allGraves_L4 a0 μ4 n x8 x9
def f_X12_allGraves (a0 : Nat) (μ : zM) : Option (Int32) :=
  zbd (f_X12_allGraves_L4 a0 μ zFU (0 : Int32) (0 : Int32)) fun x10 =>
  some x10
set_option maxHeartbeats 4000000 in
set_option maxRecDepth 100000 in
theorem r_X12_allGraves_L4 {l : Launch} {g : zL} {p : Program} {e : Env} {s : State} {m : MethodId} {args : Array Value} {below : List Frame} {meth : Method} {c : Code} {Q : State → Prop} (C0 : zC p s m args meth c g cX12_allGraves yX12_allGraves 3 (some (.int))) (a0 : Nat) (μ4 : zM) (hU1 : zT zNN zσ1 a0 12) : ∀ (n : Nat) (y2 : Int32) (y3 : Int32) (x10 : Int32), f_X12_allGraves_L4 a0 μ4 n y2 y3 = some x10 → Z p l e (zrm 1 0 0) s m args below meth c g Q 3 zNN 0 0 zσ1 μ4 35 [(1, .int x10)] [] → Z p l e (zrm 1 0 0) s m args below meth c g Q 3 zNN 0 0 zσ1 μ4 4 [(0, .ref (zb g + a0)), (1, .int y2), (2, .int y3)] [] := by
  intro n
  induction n with
  | zero =>
    intro y2 y3 x10 h kx
    rw [f_X12_allGraves_L4] at h
    cases h
  | succ n ih =>
    intro y2 y3 x10 h kx
    rw [f_X12_allGraves_L4] at h
    refine z_iload_n C0 dX12_allGraves_4 rfl 2 rfl ?_
    refine z_aload_n C0 dX12_allGraves_5 rfl 0 rfl ?_
    refine z_bipush (v := (12 : Int32)) C0 dX12_allGraves_6 (by decide) ?_
    obtain ⟨r5, e_r5, h⟩ := zbd_of h
    refine z_callV (As := [.int (12 : Int32)]) (rest := [.int y3]) C0 rfl kc_X12_of km_RX12_180 (r_X12_of (l := l) (g := g) a0 (12 : Int32) μ4 hU1 e_r5) hU1.1 hU1.2.2.1 rfl (by decide) rfl (Nat.le_of_ble_eq_true rfl) (Nat.le_of_ble_eq_true rfl) (Nat.le_of_ble_eq_true rfl) (Nat.le_of_ble_eq_true rfl) (Nat.le_refl _) rfl rfl dX12_allGraves_8 ?_
    refine z_icmp_ge C0 35 dX12_allGraves_11 (by decide) (fun c6 => ?_) (fun c6 => ?_)
    · have h := zif_t c6 h
      refine z_sub (lo1 := [(1, .int y2)]) [1] rfl ?_
      obtain rfl := (Option.some.inj h)
      exact kx
    · have h := zif_f c6 h
      refine z_iload_n C0 dX12_allGraves_14 rfl 1 rfl ?_
      refine z_aload_n C0 dX12_allGraves_15 rfl 0 rfl ?_
      refine z_bipush (v := (56 : Int32)) C0 dX12_allGraves_16 (by decide) ?_
      refine z_iconst (v := (2 : Int32)) C0 dX12_allGraves_18 (by decide) ?_
      refine z_iload_n C0 dX12_allGraves_19 rfl 2 rfl ?_
      refine z_imul C0 dX12_allGraves_20 ?_
      refine z_iadd C0 dX12_allGraves_21 ?_
      refine z_iconst (v := (1 : Int32)) C0 dX12_allGraves_22 (by decide) ?_
      refine z_iadd C0 dX12_allGraves_23 ?_
      obtain ⟨r7, e_r7, h⟩ := zbd_of h
      refine z_callV (As := [.int (((56 : Int32) + ((2 : Int32) * y3)) + (1 : Int32))]) (rest := [.int y2]) C0 rfl kc_X12_of km_RX12_180 (r_X12_of (l := l) (g := g) a0 (((56 : Int32) + ((2 : Int32) * y3)) + (1 : Int32)) μ4 hU1 e_r7) hU1.1 hU1.2.2.1 rfl (by decide) rfl (Nat.le_of_ble_eq_true rfl) (Nat.le_of_ble_eq_true rfl) (Nat.le_of_ble_eq_true rfl) (Nat.le_of_ble_eq_true rfl) (Nat.le_refl _) rfl rfl dX12_allGraves_24 ?_
      refine z_iadd C0 dX12_allGraves_27 ?_
      obtain ⟨x8, e_x8, h⟩ := zl_of h
      refine z_nm e_x8 ?_
      refine z_istore_n (lo1 := [(1, .int x8), (0, .ref (zb g + a0)), (2, .int y3)]) C0 dX12_allGraves_28 rfl (by decide) rfl ?_
      obtain ⟨x9, e_x9, h⟩ := zl_of h
      refine z_iinc (lo1 := [(2, .int x9), (1, .int x8), (0, .ref (zb g + a0))]) C0 dX12_allGraves_29 2 rfl (by decide) e_x9.symm (by decide) rfl ?_
      refine z_goto C0 4 dX12_allGraves_32 (by decide) ?_
      refine z_sub (lo1 := [(0, .ref (zb g + a0)), (1, .int x8), (2, .int x9)]) [2, 1, 0] rfl ?_
      exact ih _ _ _ h kx
set_option maxHeartbeats 4000000 in
set_option maxRecDepth 100000 in
theorem r_X12_allGraves {l : Launch} {g : zL} (a0 : Nat) (μ : zM) (hT0 : zT zNN zσ1 a0 12) {rv : Int32} (h : f_X12_allGraves a0 μ = some rv) : zMet l g yX12_allGraves cX12_allGraves 3 (some (.int)) 1 0 0 zNN zNN zσ1 zσ1 [.ref (zb g + a0)] μ (some (.int rv)) μ := by
  refine zMet.of (by decide +kernel) (Nat.le_of_ble_eq_true rfl) ?_
  intro p e s m args below meth c C0
  refine z_loc (lo1 := [(0, .ref (zb g + a0))]) rfl ?_
  unfold f_X12_allGraves at h
  refine z_iconst (v := (0 : Int32)) C0 dX12_allGraves_0 (by decide) ?_
  refine z_istore_n (lo1 := [(1, .int (0 : Int32)), (0, .ref (zb g + a0))]) C0 dX12_allGraves_1 rfl (by decide) rfl ?_
  refine z_iconst (v := (0 : Int32)) C0 dX12_allGraves_2 (by decide) ?_
  refine z_istore_n (lo1 := [(2, .int (0 : Int32)), (1, .int (0 : Int32)), (0, .ref (zb g + a0))]) C0 dX12_allGraves_3 rfl (by decide) rfl ?_
  refine z_sub (lo1 := [(0, .ref (zb g + a0)), (1, .int (0 : Int32)), (2, .int (0 : Int32))]) [2, 1, 0] rfl ?_
  obtain ⟨x10, e_x10, h⟩ := zbd_of h
  refine r_X12_allGraves_L4 C0 a0 μ hT0 zFU (0 : Int32) (0 : Int32) x10 e_x10 ?_
  refine z_iload_n C0 dX12_allGraves_35 rfl 0 rfl ?_
  have h := Option.some.inj h
  obtain rfl := h
  exact z_iret C0 rfl dX12_allGraves_36
def f_X12_allWater_L4 (a0 : Nat) (μ4 : zM) : Nat → Int32 → Int32 → Option (Int32)
  | 0, _, _ => none
  | n + 1, y2, y3 =>
    if (16 : Int32) ≤ y3 then
      some y2
    else
      zg (zin y3 16) <|
      zl (y2 + (μ4 (a0 + 5) (y3.toNatClampNeg))) fun x7 =>
      zl (y3 + (1 : Int32)) fun x8 =>
      f_X12_allWater_L4 a0 μ4 n x7 x8
def f_X12_allWater (a0 : Nat) (μ : zM) : Option (Int32) :=
  zbd (f_X12_allWater_L4 a0 μ zFU (0 : Int32) (0 : Int32)) fun x9 =>
  some x9
set_option maxHeartbeats 4000000 in
set_option maxRecDepth 100000 in
theorem r_X12_allWater_L4 {l : Launch} {g : zL} {p : Program} {e : Env} {s : State} {m : MethodId} {args : Array Value} {below : List Frame} {meth : Method} {c : Code} {Q : State → Prop} (C0 : zC p s m args meth c g cX12_allWater yX12_allWater 3 (some (.int))) (a0 : Nat) (μ4 : zM) (hU1 : zT zNN zσ1 a0 12) : ∀ (n : Nat) (y2 : Int32) (y3 : Int32) (x9 : Int32), f_X12_allWater_L4 a0 μ4 n y2 y3 = some x9 → Z p l e (zrm 0 0 0) s m args below meth c g Q 3 zNN 0 0 zσ1 μ4 25 [(1, .int x9)] [] → Z p l e (zrm 0 0 0) s m args below meth c g Q 3 zNN 0 0 zσ1 μ4 4 [(0, .ref (zb g + a0)), (1, .int y2), (2, .int y3)] [] := by
  intro n
  induction n with
  | zero =>
    intro y2 y3 x9 h kx
    rw [f_X12_allWater_L4] at h
    cases h
  | succ n ih =>
    intro y2 y3 x9 h kx
    rw [f_X12_allWater_L4] at h
    refine z_iload_n C0 dX12_allWater_4 rfl 2 rfl ?_
    refine z_bipush (v := (16 : Int32)) C0 dX12_allWater_5 (by decide) ?_
    refine z_icmp_ge C0 25 dX12_allWater_7 (by decide) (fun c5 => ?_) (fun c5 => ?_)
    · have h := zif_t c5 h
      refine z_sub (lo1 := [(1, .int y2)]) [1] rfl ?_
      obtain rfl := (Option.some.inj h)
      exact kx
    · have h := zif_f c5 h
      refine z_iload_n C0 dX12_allWater_10 rfl 1 rfl ?_
      refine z_aload_n C0 dX12_allWater_11 rfl 0 rfl ?_
      refine z_getr C0 hU1 kf_12_23 zr_12_24 zx_12 (zs_12_24 hU1).1 dX12_allWater_12 ?_
      refine z_iload_n C0 dX12_allWater_15 rfl 2 rfl ?_
      obtain ⟨g6, h⟩ := zg_of h
      refine z_iald C0 (zs_12_24 hU1).2 g6 rfl dX12_allWater_16 ?_
      refine z_iadd C0 dX12_allWater_17 ?_
      obtain ⟨x7, e_x7, h⟩ := zl_of h
      refine z_nm e_x7 ?_
      refine z_istore_n (lo1 := [(1, .int x7), (0, .ref (zb g + a0)), (2, .int y3)]) C0 dX12_allWater_18 rfl (by decide) rfl ?_
      obtain ⟨x8, e_x8, h⟩ := zl_of h
      refine z_iinc (lo1 := [(2, .int x8), (1, .int x7), (0, .ref (zb g + a0))]) C0 dX12_allWater_19 2 rfl (by decide) e_x8.symm (by decide) rfl ?_
      refine z_goto C0 4 dX12_allWater_22 (by decide) ?_
      refine z_sub (lo1 := [(0, .ref (zb g + a0)), (1, .int x7), (2, .int x8)]) [2, 1, 0] rfl ?_
      exact ih _ _ _ h kx
set_option maxHeartbeats 4000000 in
set_option maxRecDepth 100000 in
theorem r_X12_allWater {l : Launch} {g : zL} (a0 : Nat) (μ : zM) (hT0 : zT zNN zσ1 a0 12) {rv : Int32} (h : f_X12_allWater a0 μ = some rv) : zMet l g yX12_allWater cX12_allWater 3 (some (.int)) 0 0 0 zNN zNN zσ1 zσ1 [.ref (zb g + a0)] μ (some (.int rv)) μ := by
  refine zMet.of (by decide +kernel) (Nat.le_of_ble_eq_true rfl) ?_
  intro p e s m args below meth c C0
  refine z_loc (lo1 := [(0, .ref (zb g + a0))]) rfl ?_
  unfold f_X12_allWater at h
  refine z_iconst (v := (0 : Int32)) C0 dX12_allWater_0 (by decide) ?_
  refine z_istore_n (lo1 := [(1, .int (0 : Int32)), (0, .ref (zb g + a0))]) C0 dX12_allWater_1 rfl (by decide) rfl ?_
  refine z_iconst (v := (0 : Int32)) C0 dX12_allWater_2 (by decide) ?_
  refine z_istore_n (lo1 := [(2, .int (0 : Int32)), (1, .int (0 : Int32)), (0, .ref (zb g + a0))]) C0 dX12_allWater_3 rfl (by decide) rfl ?_
  refine z_sub (lo1 := [(0, .ref (zb g + a0)), (1, .int (0 : Int32)), (2, .int (0 : Int32))]) [2, 1, 0] rfl ?_
  obtain ⟨x9, e_x9, h⟩ := zbd_of h
  refine r_X12_allWater_L4 C0 a0 μ hT0 zFU (0 : Int32) (0 : Int32) x9 e_x9 ?_
  refine z_iload_n C0 dX12_allWater_25 rfl 0 rfl ?_
  have h := Option.some.inj h
  obtain rfl := h
  exact z_iret C0 rfl dX12_allWater_26
def f_X12_allWays_L4 (a0 : Nat) (μ4 : zM) : Nat → Int32 → Int32 → Option (Int32)
  | 0, _, _ => none
  | n + 1, y2, y3 =>
    zbd (f_X12_mourners a0 μ4) fun r5 =>
    if r5 ≤ y3 then
      some y2
    else
      zl (y2 * ((μ4 a0 33) + (1 : Int32))) fun x7 =>
      zl (y3 + (1 : Int32)) fun x8 =>
      f_X12_allWays_L4 a0 μ4 n x7 x8
def f_X12_allWays (a0 : Nat) (μ : zM) : Option (Int32) :=
  zbd (f_X12_allWays_L4 a0 μ zFU (1 : Int32) (0 : Int32)) fun x9 =>
  some x9
set_option maxHeartbeats 4000000 in
set_option maxRecDepth 100000 in
theorem r_X12_allWays_L4 {l : Launch} {g : zL} {p : Program} {e : Env} {s : State} {m : MethodId} {args : Array Value} {below : List Frame} {meth : Method} {c : Code} {Q : State → Prop} (C0 : zC p s m args meth c g cX12_allWays yX12_allWays 3 (some (.int))) (a0 : Nat) (μ4 : zM) (hU1 : zT zNN zσ1 a0 12) : ∀ (n : Nat) (y2 : Int32) (y3 : Int32) (x9 : Int32), f_X12_allWays_L4 a0 μ4 n y2 y3 = some x9 → Z p l e (zrm 2 0 0) s m args below meth c g Q 3 zNN 0 0 zσ1 μ4 27 [(1, .int x9)] [] → Z p l e (zrm 2 0 0) s m args below meth c g Q 3 zNN 0 0 zσ1 μ4 4 [(0, .ref (zb g + a0)), (1, .int y2), (2, .int y3)] [] := by
  intro n
  induction n with
  | zero =>
    intro y2 y3 x9 h kx
    rw [f_X12_allWays_L4] at h
    cases h
  | succ n ih =>
    intro y2 y3 x9 h kx
    rw [f_X12_allWays_L4] at h
    refine z_iload_n C0 dX12_allWays_4 rfl 2 rfl ?_
    refine z_aload_n C0 dX12_allWays_5 rfl 0 rfl ?_
    obtain ⟨r5, e_r5, h⟩ := zbd_of h
    refine z_callV (As := []) (rest := [.int y3]) C0 rfl kc_X12_mourners km_RX12_183 (r_X12_mourners (l := l) (g := g) a0 μ4 hU1 e_r5) hU1.1 hU1.2.2.1 rfl (by decide) rfl (Nat.le_of_ble_eq_true rfl) (Nat.le_of_ble_eq_true rfl) (Nat.le_of_ble_eq_true rfl) (Nat.le_of_ble_eq_true rfl) (Nat.le_refl _) rfl rfl dX12_allWays_6 ?_
    refine z_icmp_ge C0 27 dX12_allWays_9 (by decide) (fun c6 => ?_) (fun c6 => ?_)
    · have h := zif_t c6 h
      refine z_sub (lo1 := [(1, .int y2)]) [1] rfl ?_
      obtain rfl := (Option.some.inj h)
      exact kx
    · have h := zif_f c6 h
      refine z_iload_n C0 dX12_allWays_12 rfl 1 rfl ?_
      refine z_aload_n C0 dX12_allWays_13 rfl 0 rfl ?_
      refine z_geti C0 hU1.1 hU1.2.2.1 kf_12_375 zr_12_33 dX12_allWays_14 ?_
      refine z_iconst (v := (1 : Int32)) C0 dX12_allWays_17 (by decide) ?_
      refine z_iadd C0 dX12_allWays_18 ?_
      refine z_imul C0 dX12_allWays_19 ?_
      obtain ⟨x7, e_x7, h⟩ := zl_of h
      refine z_nm e_x7 ?_
      refine z_istore_n (lo1 := [(1, .int x7), (0, .ref (zb g + a0)), (2, .int y3)]) C0 dX12_allWays_20 rfl (by decide) rfl ?_
      obtain ⟨x8, e_x8, h⟩ := zl_of h
      refine z_iinc (lo1 := [(2, .int x8), (1, .int x7), (0, .ref (zb g + a0))]) C0 dX12_allWays_21 2 rfl (by decide) e_x8.symm (by decide) rfl ?_
      refine z_goto C0 4 dX12_allWays_24 (by decide) ?_
      refine z_sub (lo1 := [(0, .ref (zb g + a0)), (1, .int x7), (2, .int x8)]) [2, 1, 0] rfl ?_
      exact ih _ _ _ h kx
set_option maxHeartbeats 4000000 in
set_option maxRecDepth 100000 in
theorem r_X12_allWays {l : Launch} {g : zL} (a0 : Nat) (μ : zM) (hT0 : zT zNN zσ1 a0 12) {rv : Int32} (h : f_X12_allWays a0 μ = some rv) : zMet l g yX12_allWays cX12_allWays 3 (some (.int)) 2 0 0 zNN zNN zσ1 zσ1 [.ref (zb g + a0)] μ (some (.int rv)) μ := by
  refine zMet.of (by decide +kernel) (Nat.le_of_ble_eq_true rfl) ?_
  intro p e s m args below meth c C0
  refine z_loc (lo1 := [(0, .ref (zb g + a0))]) rfl ?_
  unfold f_X12_allWays at h
  refine z_iconst (v := (1 : Int32)) C0 dX12_allWays_0 (by decide) ?_
  refine z_istore_n (lo1 := [(1, .int (1 : Int32)), (0, .ref (zb g + a0))]) C0 dX12_allWays_1 rfl (by decide) rfl ?_
  refine z_iconst (v := (0 : Int32)) C0 dX12_allWays_2 (by decide) ?_
  refine z_istore_n (lo1 := [(2, .int (0 : Int32)), (1, .int (1 : Int32)), (0, .ref (zb g + a0))]) C0 dX12_allWays_3 rfl (by decide) rfl ?_
  refine z_sub (lo1 := [(0, .ref (zb g + a0)), (1, .int (1 : Int32)), (2, .int (0 : Int32))]) [2, 1, 0] rfl ?_
  obtain ⟨x9, e_x9, h⟩ := zbd_of h
  refine r_X12_allWays_L4 C0 a0 μ hT0 zFU (1 : Int32) (0 : Int32) x9 e_x9 ?_
  refine z_iload_n C0 dX12_allWays_27 rfl 0 rfl ?_
  have h := Option.some.inj h
  obtain rfl := h
  exact z_iret C0 rfl dX12_allWays_28
def f_X12_also (a0 : Nat) (v1 : Int32) (v2 : Int32) (μ : zM) : zM :=
  if ((μ a0 8) = 0) ∧ (((μ (a0 + 1) 6) = 0) ∨ ((¬ ((μ (a0 + 1) 7) < v2)) ∧ ((¬ (μ (a0 + 1) 7) = v2) ∨ (v1 < (μ (a0 + 1) 6))))) then
    zl (zup μ (a0 + 1) 6 v1) fun μ6 =>
    zl (zup μ6 (a0 + 1) 7 v2) fun μ7 =>
    μ7
  else
    μ
set_option maxHeartbeats 4000000 in
set_option maxRecDepth 100000 in
theorem r_X12_also {l : Launch} {g : zL} (a0 : Nat) (v1 : Int32) (v2 : Int32) (μ : zM) (hT0 : zT zNN zσ1 a0 12) {μr : zM} (h : f_X12_also a0 v1 v2 μ = μr) : zMet l g yX12_also cX12_also 3 none 0 0 0 zNN zNN zσ1 zσ1 [.ref (zb g + a0), .int v1, .int v2] μ none μr := by
  refine zMet.of (by decide +kernel) (Nat.le_of_ble_eq_true rfl) ?_
  intro p e s m args below meth c C0
  refine z_loc (lo1 := [(0, .ref (zb g + a0)), (1, .int v1), (2, .int v2)]) rfl ?_
  unfold f_X12_also at h
  refine z_aload_n C0 dX12_also_0 rfl 0 rfl ?_
  refine z_geti C0 hT0.1 hT0.2.2.1 kf_12_102 zr_12_8 dX12_also_1 ?_
  by_cases hc8 : ((μ a0 8) = 0) ∧ (((μ (a0 + 1) 6) = 0) ∨ ((¬ ((μ (a0 + 1) 7) < v2)) ∧ ((¬ (μ (a0 + 1) 7) = v2) ∨ (v1 < (μ (a0 + 1) 6)))))
  · have h := zif_t hc8 h
    refine z_join μ 51 [(0, .ref (zb g + a0)), (1, .int v1), (2, .int v2)] [] ?_ (fun k9 => ?_)
    · refine z_aload_n C0 dX12_also_51 rfl 0 rfl ?_
      refine z_getr C0 hT0 kf_12_7 zr_12_0 zx_12 (zs_12_0 hT0).1 dX12_also_52 ?_
      refine z_bipush (v := (6 : Int32)) C0 dX12_also_55 (by decide) ?_
      refine z_iload_n C0 dX12_also_57 rfl 1 rfl ?_
      obtain ⟨μ6, e_μ6, h⟩ := zl_of h
      refine z_iast (j := 6) C0 (zs_12_0 hT0).2 (by decide : zin (6 : Int32) 4688 = true) (by decide) e_μ6 dX12_also_58 ?_
      refine z_aload_n C0 dX12_also_59 rfl 0 rfl ?_
      refine z_getr C0 hT0 kf_12_7 zr_12_0 zx_12 (zs_12_0 hT0).1 dX12_also_60 ?_
      refine z_bipush (v := (7 : Int32)) C0 dX12_also_63 (by decide) ?_
      refine z_iload_n C0 dX12_also_65 rfl 2 rfl ?_
      obtain ⟨μ7, e_μ7, h⟩ := zl_of h
      refine z_iast (j := 7) C0 (zs_12_0 hT0).2 (by decide : zin (7 : Int32) 4688 = true) (by decide) e_μ7 dX12_also_66 ?_
      skip
      obtain rfl := h
      exact z_vret C0 rfl dX12_also_67
    · refine z_if_ne C0 50 dX12_also_4 (by decide) (fun c1 => ?_) (fun c1 => ?_)
      · exact absurd hc8 (fun q => c1 q.1)
      · refine z_aload_n C0 dX12_also_7 rfl 0 rfl ?_
        refine z_getr C0 hT0 kf_12_7 zr_12_0 zx_12 (zs_12_0 hT0).1 dX12_also_8 ?_
        refine z_bipush (v := (6 : Int32)) C0 dX12_also_11 (by decide) ?_
        refine z_iald (j := 6) C0 (zs_12_0 hT0).2 (by decide : zin (6 : Int32) 4688 = true) (by decide) dX12_also_13 ?_
        refine z_if_eq C0 51 dX12_also_14 (by decide) (fun c2 => ?_) (fun c2 => ?_)
        · exact k9
        · refine z_aload_n C0 dX12_also_17 rfl 0 rfl ?_
          refine z_getr C0 hT0 kf_12_7 zr_12_0 zx_12 (zs_12_0 hT0).1 dX12_also_18 ?_
          refine z_bipush (v := (7 : Int32)) C0 dX12_also_21 (by decide) ?_
          refine z_iald (j := 7) C0 (zs_12_0 hT0).2 (by decide : zin (7 : Int32) 4688 = true) (by decide) dX12_also_23 ?_
          refine z_iload_n C0 dX12_also_24 rfl 2 rfl ?_
          refine z_icmp_lt C0 50 dX12_also_25 (by decide) (fun c3 => ?_) (fun c3 => ?_)
          · exact absurd hc8 (fun q => (fun q => q.elim c2 (fun q => q.1 c3)) q.2)
          · refine z_aload_n C0 dX12_also_28 rfl 0 rfl ?_
            refine z_getr C0 hT0 kf_12_7 zr_12_0 zx_12 (zs_12_0 hT0).1 dX12_also_29 ?_
            refine z_bipush (v := (7 : Int32)) C0 dX12_also_32 (by decide) ?_
            refine z_iald (j := 7) C0 (zs_12_0 hT0).2 (by decide : zin (7 : Int32) 4688 = true) (by decide) dX12_also_34 ?_
            refine z_iload_n C0 dX12_also_35 rfl 2 rfl ?_
            refine z_icmp_ne C0 51 dX12_also_36 (by decide) (fun c4 => ?_) (fun c4 => ?_)
            · exact k9
            · refine z_aload_n C0 dX12_also_39 rfl 0 rfl ?_
              refine z_getr C0 hT0 kf_12_7 zr_12_0 zx_12 (zs_12_0 hT0).1 dX12_also_40 ?_
              refine z_bipush (v := (6 : Int32)) C0 dX12_also_43 (by decide) ?_
              refine z_iald (j := 6) C0 (zs_12_0 hT0).2 (by decide : zin (6 : Int32) 4688 = true) (by decide) dX12_also_45 ?_
              refine z_iload_n C0 dX12_also_46 rfl 1 rfl ?_
              refine z_icmp_gt C0 51 dX12_also_47 (by decide) (fun c5 => ?_) (fun c5 => ?_)
              · exact k9
              · exact absurd hc8 (fun q => (fun q => q.elim c2 (fun q => (fun q => q.elim (fun z => z c4) c5) q.2)) q.2)
  · have h := zif_f hc8 h
    refine z_join μ 50 [(0, .ref (zb g + a0)), (1, .int v1), (2, .int v2)] [] ?_ (fun k10 => ?_)
    · skip
      obtain rfl := h
      exact z_vret C0 rfl dX12_also_50
    · refine z_if_ne C0 50 dX12_also_4 (by decide) (fun c1 => ?_) (fun c1 => ?_)
      · exact k10
      · refine z_aload_n C0 dX12_also_7 rfl 0 rfl ?_
        refine z_getr C0 hT0 kf_12_7 zr_12_0 zx_12 (zs_12_0 hT0).1 dX12_also_8 ?_
        refine z_bipush (v := (6 : Int32)) C0 dX12_also_11 (by decide) ?_
        refine z_iald (j := 6) C0 (zs_12_0 hT0).2 (by decide : zin (6 : Int32) 4688 = true) (by decide) dX12_also_13 ?_
        refine z_if_eq C0 51 dX12_also_14 (by decide) (fun c2 => ?_) (fun c2 => ?_)
        · exact absurd ⟨c1, (Or.inl c2)⟩ hc8
        · refine z_aload_n C0 dX12_also_17 rfl 0 rfl ?_
          refine z_getr C0 hT0 kf_12_7 zr_12_0 zx_12 (zs_12_0 hT0).1 dX12_also_18 ?_
          refine z_bipush (v := (7 : Int32)) C0 dX12_also_21 (by decide) ?_
          refine z_iald (j := 7) C0 (zs_12_0 hT0).2 (by decide : zin (7 : Int32) 4688 = true) (by decide) dX12_also_23 ?_
          refine z_iload_n C0 dX12_also_24 rfl 2 rfl ?_
          refine z_icmp_lt C0 50 dX12_also_25 (by decide) (fun c3 => ?_) (fun c3 => ?_)
          · exact k10
          · refine z_aload_n C0 dX12_also_28 rfl 0 rfl ?_
            refine z_getr C0 hT0 kf_12_7 zr_12_0 zx_12 (zs_12_0 hT0).1 dX12_also_29 ?_
            refine z_bipush (v := (7 : Int32)) C0 dX12_also_32 (by decide) ?_
            refine z_iald (j := 7) C0 (zs_12_0 hT0).2 (by decide : zin (7 : Int32) 4688 = true) (by decide) dX12_also_34 ?_
            refine z_iload_n C0 dX12_also_35 rfl 2 rfl ?_
            refine z_icmp_ne C0 51 dX12_also_36 (by decide) (fun c4 => ?_) (fun c4 => ?_)
            · exact absurd ⟨c1, (Or.inr ⟨c3, (Or.inl c4)⟩)⟩ hc8
            · refine z_aload_n C0 dX12_also_39 rfl 0 rfl ?_
              refine z_getr C0 hT0 kf_12_7 zr_12_0 zx_12 (zs_12_0 hT0).1 dX12_also_40 ?_
              refine z_bipush (v := (6 : Int32)) C0 dX12_also_43 (by decide) ?_
              refine z_iald (j := 6) C0 (zs_12_0 hT0).2 (by decide : zin (6 : Int32) 4688 = true) (by decide) dX12_also_45 ?_
              refine z_iload_n C0 dX12_also_46 rfl 1 rfl ?_
              refine z_icmp_gt C0 51 dX12_also_47 (by decide) (fun c5 => ?_) (fun c5 => ?_)
              · exact absurd ⟨c1, (Or.inr ⟨c3, (Or.inr c5)⟩)⟩ hc8
              · exact k10
def f_X12_isOf (a0 : Nat) (v1 : Int32) (v2 : Int32) (μ : zM) : Option (Int32) :=
  zg (zin v1 4688) <|
  zg (z01 (f_X12_isIn v2 (0 : Int32) ((μ (a0 + 1) (v1.toNatClampNeg)) - (1 : Int32)))) <|
  some (f_X12_isIn v2 (0 : Int32) ((μ (a0 + 1) (v1.toNatClampNeg)) - (1 : Int32)))
set_option maxHeartbeats 4000000 in
set_option maxRecDepth 100000 in
theorem r_X12_isOf {l : Launch} {g : zL} (a0 : Nat) (v1 : Int32) (v2 : Int32) (μ : zM) (hT0 : zT zNN zσ1 a0 12) {rv : Int32} (h : f_X12_isOf a0 v1 v2 μ = some rv) : zMet l g yX12_isOf cX12_isOf 3 (some (.boolean)) 1 0 0 zNN zNN zσ1 zσ1 [.ref (zb g + a0), .int v1, .int v2] μ (some (.int rv)) μ := by
  refine zMet.of (by decide +kernel) (Nat.le_of_ble_eq_true rfl) ?_
  intro p e s m args below meth c C0
  refine z_loc (lo1 := [(0, .ref (zb g + a0)), (1, .int v1), (2, .int v2)]) rfl ?_
  unfold f_X12_isOf at h
  refine z_iload_n C0 dX12_isOf_0 rfl 2 rfl ?_
  refine z_iconst (v := (0 : Int32)) C0 dX12_isOf_1 (by decide) ?_
  refine z_aload_n C0 dX12_isOf_2 rfl 0 rfl ?_
  refine z_getr C0 hT0 kf_12_7 zr_12_0 zx_12 (zs_12_0 hT0).1 dX12_isOf_3 ?_
  refine z_iload_n C0 dX12_isOf_6 rfl 1 rfl ?_
  obtain ⟨g1, h⟩ := zg_of h
  refine z_iald C0 (zs_12_0 hT0).2 g1 rfl dX12_isOf_7 ?_
  refine z_iconst (v := (1 : Int32)) C0 dX12_isOf_8 (by decide) ?_
  refine z_isub C0 dX12_isOf_9 ?_
  refine z_callS (As := [.int v2, .int (0 : Int32), .int ((μ (a0 + 1) (v1.toNatClampNeg)) - (1 : Int32))]) (rest := []) C0 rfl kc_X12_isIn km_RX12_109 (r_X12_isIn (l := l) (g := g) (μ := μ) v2 (0 : Int32) ((μ (a0 + 1) (v1.toNatClampNeg)) - (1 : Int32)) rfl) rfl (Nat.le_of_ble_eq_true rfl) (Nat.le_of_ble_eq_true rfl) (Nat.le_of_ble_eq_true rfl) (Nat.le_of_ble_eq_true rfl) (Nat.le_refl _) rfl rfl dX12_isOf_10 ?_
  obtain ⟨g2, h⟩ := zg_of h
  have h := Option.some.inj h
  obtain rfl := h
  exact z_zret C0 rfl g2 dX12_isOf_13
def f_X12_placeOf (v0 : Int32) (v1 : Int32) : Int32 :=
  if v0 = (0 : Int32) then
    ((610 : Int32) + ((109 : Int32) * v1))
  else
  if v0 = (1 : Int32) then
    ((828 : Int32) + ((121 : Int32) * v1))
  else
  if v0 = (2 : Int32) then
    ((1070 : Int32) + ((17 : Int32) * v1))
  else
  if v0 = (3 : Int32) then
    ((1104 : Int32) + ((9 : Int32) * v1))
  else
    ((1122 : Int32) + ((25 : Int32) * v1))
set_option maxHeartbeats 4000000 in
set_option maxRecDepth 100000 in
theorem r_X12_placeOf {l : Launch} {g : zL} (v0 : Int32) (v1 : Int32) {μ : zM}  {rv : Int32} (h : f_X12_placeOf v0 v1 = rv) : zMet l g yX12_placeOf cX12_placeOf 2 (some (.int)) 0 0 0 zNN zNN zσ1 zσ1 [.int v0, .int v1] μ (some (.int rv)) μ := by
  refine zMet.of (by decide +kernel) (Nat.le_of_ble_eq_true rfl) ?_
  intro p e s m args below meth c C0
  refine z_loc (lo1 := [(0, .int v0), (1, .int v1)]) rfl ?_
  unfold f_X12_placeOf at h
  refine z_iload_n C0 dX12_placeOf_0 rfl 0 rfl ?_
  by_cases c1 : v0 = (0 : Int32)
  · have h := zif_t c1 h
    refine z_tabK C0 (31) 32 dX12_placeOf_1 c1 (by decide) (by decide) (by decide) (by decide) ?_
    refine z_sipush (v := (610 : Int32)) C0 dX12_placeOf_32 (by decide) ?_
    refine z_bipush (v := (109 : Int32)) C0 dX12_placeOf_35 (by decide) ?_
    refine z_iload_n C0 dX12_placeOf_37 rfl 1 rfl ?_
    refine z_imul C0 dX12_placeOf_38 ?_
    refine z_iadd C0 dX12_placeOf_39 ?_
    skip
    obtain rfl := h
    exact z_iret C0 rfl dX12_placeOf_40
  · have h := zif_f c1 h
    by_cases c2 : v0 = (1 : Int32)
    · have h := zif_t c2 h
      refine z_tabK C0 (40) 41 dX12_placeOf_1 c2 (by decide) (by decide) (by decide) (by decide) ?_
      refine z_sipush (v := (828 : Int32)) C0 dX12_placeOf_41 (by decide) ?_
      refine z_bipush (v := (121 : Int32)) C0 dX12_placeOf_44 (by decide) ?_
      refine z_iload_n C0 dX12_placeOf_46 rfl 1 rfl ?_
      refine z_imul C0 dX12_placeOf_47 ?_
      refine z_iadd C0 dX12_placeOf_48 ?_
      skip
      obtain rfl := h
      exact z_iret C0 rfl dX12_placeOf_49
    · have h := zif_f c2 h
      by_cases c3 : v0 = (2 : Int32)
      · have h := zif_t c3 h
        refine z_tabK C0 (49) 50 dX12_placeOf_1 c3 (by decide) (by decide) (by decide) (by decide) ?_
        refine z_sipush (v := (1070 : Int32)) C0 dX12_placeOf_50 (by decide) ?_
        refine z_bipush (v := (17 : Int32)) C0 dX12_placeOf_53 (by decide) ?_
        refine z_iload_n C0 dX12_placeOf_55 rfl 1 rfl ?_
        refine z_imul C0 dX12_placeOf_56 ?_
        refine z_iadd C0 dX12_placeOf_57 ?_
        skip
        obtain rfl := h
        exact z_iret C0 rfl dX12_placeOf_58
      · have h := zif_f c3 h
        by_cases c4 : v0 = (3 : Int32)
        · have h := zif_t c4 h
          refine z_tabK C0 (58) 59 dX12_placeOf_1 c4 (by decide) (by decide) (by decide) (by decide) ?_
          refine z_sipush (v := (1104 : Int32)) C0 dX12_placeOf_59 (by decide) ?_
          refine z_bipush (v := (9 : Int32)) C0 dX12_placeOf_62 (by decide) ?_
          refine z_iload_n C0 dX12_placeOf_64 rfl 1 rfl ?_
          refine z_imul C0 dX12_placeOf_65 ?_
          refine z_iadd C0 dX12_placeOf_66 ?_
          skip
          obtain rfl := h
          exact z_iret C0 rfl dX12_placeOf_67
        · have h := zif_f c4 h
          refine z_join μ 68 [(0, .int v0), (1, .int v1)] [] ?_ (fun k5 => ?_)
          · refine z_sipush (v := (1122 : Int32)) C0 dX12_placeOf_68 (by decide) ?_
            refine z_bipush (v := (25 : Int32)) C0 dX12_placeOf_71 (by decide) ?_
            refine z_iload_n C0 dX12_placeOf_73 rfl 1 rfl ?_
            refine z_imul C0 dX12_placeOf_74 ?_
            refine z_iadd C0 dX12_placeOf_75 ?_
            skip
            obtain rfl := h
            exact z_iret C0 rfl dX12_placeOf_76
          · have c1 : v0.toInt ≠ 0 := fun q => c1 (Int32.toInt_inj.mp (q.trans (by decide)))
            have c2 : v0.toInt ≠ 1 := fun q => c2 (Int32.toInt_inj.mp (q.trans (by decide)))
            have c3 : v0.toInt ≠ 2 := fun q => c3 (Int32.toInt_inj.mp (q.trans (by decide)))
            have c4 : v0.toInt ≠ 3 := fun q => c4 (Int32.toInt_inj.mp (q.trans (by decide)))
            exact z_tabOut C0 68 dX12_placeOf_1 (by omega) (by decide) k5
def f_X12_isLake (a0 : Nat) (v1 : Int32) (μ : zM) : Option (Int32 × zM) :=
  zbd (f_X12_isOf a0 (0 : Int32) v1 μ) fun r1 =>
  if ¬ r1 = 0 then
    zl (zup μ a0 10 (f_X12_placeOf (0 : Int32) v1)) fun μ3 =>
    some ((1 : Int32), μ3)
  else
    some ((0 : Int32), μ)
set_option maxHeartbeats 4000000 in
set_option maxRecDepth 100000 in
theorem r_X12_isLake {l : Launch} {g : zL} (a0 : Nat) (v1 : Int32) (μ : zM) (hT0 : zT zNN zσ1 a0 12) {rv : Int32} {μr : zM} (h : f_X12_isLake a0 v1 μ = some (rv, μr)) : zMet l g yX12_isLake cX12_isLake 2 (some (.boolean)) 2 0 0 zNN zNN zσ1 zσ1 [.ref (zb g + a0), .int v1] μ (some (.int rv)) μr := by
  refine zMet.of (by decide +kernel) (Nat.le_of_ble_eq_true rfl) ?_
  intro p e s m args below meth c C0
  refine z_loc (lo1 := [(0, .ref (zb g + a0)), (1, .int v1)]) rfl ?_
  unfold f_X12_isLake at h
  refine z_aload_n C0 dX12_isLake_0 rfl 0 rfl ?_
  refine z_iconst (v := (0 : Int32)) C0 dX12_isLake_1 (by decide) ?_
  refine z_iload_n C0 dX12_isLake_2 rfl 1 rfl ?_
  obtain ⟨r1, e_r1, h⟩ := zbd_of h
  refine z_callV (As := [.int (0 : Int32), .int v1]) (rest := []) C0 rfl kc_X12_isOf km_RX12_144 (r_X12_isOf (l := l) (g := g) a0 (0 : Int32) v1 μ hT0 e_r1) hT0.1 hT0.2.2.1 rfl (by decide) rfl (Nat.le_of_ble_eq_true rfl) (Nat.le_of_ble_eq_true rfl) (Nat.le_of_ble_eq_true rfl) (Nat.le_of_ble_eq_true rfl) (Nat.le_refl _) rfl rfl dX12_isLake_3 ?_
  refine z_if_ne C0 11 dX12_isLake_6 (by decide) (fun c2 => ?_) (fun c2 => ?_)
  · have h := zif_t c2 h
    refine z_aload_n C0 dX12_isLake_11 rfl 0 rfl ?_
    refine z_iconst (v := (0 : Int32)) C0 dX12_isLake_12 (by decide) ?_
    refine z_iload_n C0 dX12_isLake_13 rfl 1 rfl ?_
    refine z_callS (As := [.int (0 : Int32), .int v1]) (rest := [.ref (zb g + a0)]) C0 rfl kc_X12_placeOf km_RX12_174 (r_X12_placeOf (l := l) (g := g) (μ := μ) (0 : Int32) v1 rfl) rfl (Nat.le_of_ble_eq_true rfl) (Nat.le_of_ble_eq_true rfl) (Nat.le_of_ble_eq_true rfl) (Nat.le_of_ble_eq_true rfl) (Nat.le_refl _) rfl rfl dX12_isLake_14 ?_
    obtain ⟨μ3, e_μ3, h⟩ := zl_of h
    refine z_puti C0 hT0.1 hT0.2.2.1 kf_12_177 zp_12_10 zr_12_10 e_μ3 dX12_isLake_17 ?_
    refine z_iconst (v := (1 : Int32)) C0 dX12_isLake_20 (by decide) ?_
    have h := Option.some.inj h
    obtain ⟨rfl, rfl⟩ := Prod.mk.inj h
    exact z_zret C0 rfl (by decide) dX12_isLake_21
  · have h := zif_f (fun q => q c2) h
    refine z_iconst (v := (0 : Int32)) C0 dX12_isLake_9 (by decide) ?_
    have h := Option.some.inj h
    obtain ⟨rfl, rfl⟩ := Prod.mk.inj h
    exact z_zret C0 rfl (by decide) dX12_isLake_10
def f_X12_places (a0 : Nat) (μ : zM) : Option (Int32) :=
  zbd (f_X12_of a0 (2 : Int32) μ) fun r1 =>
  zbd (f_X12_of a0 (3 : Int32) μ) fun r2 =>
  some (r1 * r2)
set_option maxHeartbeats 4000000 in
set_option maxRecDepth 100000 in
theorem r_X12_places {l : Launch} {g : zL} (a0 : Nat) (μ : zM) (hT0 : zT zNN zσ1 a0 12) {rv : Int32} (h : f_X12_places a0 μ = some rv) : zMet l g yX12_places cX12_places 1 (some (.int)) 1 0 0 zNN zNN zσ1 zσ1 [.ref (zb g + a0)] μ (some (.int rv)) μ := by
  refine zMet.of (by decide +kernel) (Nat.le_of_ble_eq_true rfl) ?_
  intro p e s m args below meth c C0
  refine z_loc (lo1 := [(0, .ref (zb g + a0))]) rfl ?_
  unfold f_X12_places at h
  refine z_aload_n C0 dX12_places_0 rfl 0 rfl ?_
  refine z_iconst (v := (2 : Int32)) C0 dX12_places_1 (by decide) ?_
  obtain ⟨r1, e_r1, h⟩ := zbd_of h
  refine z_callV (As := [.int (2 : Int32)]) (rest := []) C0 rfl kc_X12_of km_RX12_180 (r_X12_of (l := l) (g := g) a0 (2 : Int32) μ hT0 e_r1) hT0.1 hT0.2.2.1 rfl (by decide) rfl (Nat.le_of_ble_eq_true rfl) (Nat.le_of_ble_eq_true rfl) (Nat.le_of_ble_eq_true rfl) (Nat.le_of_ble_eq_true rfl) (Nat.le_refl _) rfl rfl dX12_places_2 ?_
  refine z_aload_n C0 dX12_places_5 rfl 0 rfl ?_
  refine z_iconst (v := (3 : Int32)) C0 dX12_places_6 (by decide) ?_
  obtain ⟨r2, e_r2, h⟩ := zbd_of h
  refine z_callV (As := [.int (3 : Int32)]) (rest := [.int r1]) C0 rfl kc_X12_of km_RX12_180 (r_X12_of (l := l) (g := g) a0 (3 : Int32) μ hT0 e_r2) hT0.1 hT0.2.2.1 rfl (by decide) rfl (Nat.le_of_ble_eq_true rfl) (Nat.le_of_ble_eq_true rfl) (Nat.le_of_ble_eq_true rfl) (Nat.le_of_ble_eq_true rfl) (Nat.le_refl _) rfl rfl dX12_places_7 ?_
  refine z_imul C0 dX12_places_10 ?_
  have h := Option.some.inj h
  obtain rfl := h
  exact z_iret C0 rfl dX12_places_11
def f_X12_areSeen (a0 : Nat) (v1 : Int32) (v2 : Int32) (μ : zM) : Option (Int32 × zM) :=
  zbd2 (f_X12_isLake a0 v1 μ) fun r1 μ2 =>
  zbd (if r1 = 0 then
      some false
    else
      zbd (f_X12_isOf a0 (2 : Int32) v2 μ2) fun r5 =>
      if ¬ r5 = 0 then
        some true
      else
        some false) fun b7 =>
  if b7 = true then
    zl (zup μ2 a0 32 (f_X12_placeOf (2 : Int32) v2)) fun μ8 =>
    zl (zup μ8 a0 33 (0 : Int32)) fun μ9 =>
    zbd (f_X12_adds0 a0 (0 : Int32) μ9) fun μ10 =>
    zbd (f_X12_of a0 (2 : Int32) μ10) fun r11 =>
    zbd (f_X12_adds0 a0 (r11 - (1 : Int32)) μ10) fun μ12 =>
    zbd (f_X12_of a0 (2 : Int32) μ12) fun r13 =>
    zbd (f_X12_of a0 (3 : Int32) μ12) fun r14 =>
    zbd (f_X12_adds0 a0 (r13 * (r14 - (1 : Int32))) μ12) fun μ15 =>
    zbd (f_X12_places a0 μ15) fun r16 =>
    zbd (f_X12_adds0 a0 (r16 - (1 : Int32)) μ15) fun μ17 =>
    some ((1 : Int32), μ17)
  else
    some ((0 : Int32), μ2)
set_option maxHeartbeats 4000000 in
set_option maxRecDepth 100000 in
theorem r_X12_areSeen {l : Launch} {g : zL} (a0 : Nat) (v1 : Int32) (v2 : Int32) (μ : zM) (hT0 : zT zNN zσ1 a0 12) {rv : Int32} {μr : zM} (h : f_X12_areSeen a0 v1 v2 μ = some (rv, μr)) : zMet l g yX12_areSeen cX12_areSeen 3 (some (.boolean)) 3 0 0 zNN zNN zσ1 zσ1 [.ref (zb g + a0), .int v1, .int v2] μ (some (.int rv)) μr := by
  refine zMet.of (by decide +kernel) (Nat.le_of_ble_eq_true rfl) ?_
  intro p e s m args below meth c C0
  refine z_loc (lo1 := [(0, .ref (zb g + a0)), (1, .int v1), (2, .int v2)]) rfl ?_
  unfold f_X12_areSeen at h
  refine z_aload_n C0 dX12_areSeen_0 rfl 0 rfl ?_
  refine z_iload_n C0 dX12_areSeen_1 rfl 1 rfl ?_
  obtain ⟨r1, μ2, e_r1, h⟩ := zbd2_of h
  refine z_callV (As := [.int v1]) (rest := []) C0 rfl kc_X12_isLake km_RX12_186 (r_X12_isLake (l := l) (g := g) a0 v1 μ hT0 e_r1) hT0.1 hT0.2.2.1 rfl (by decide) rfl (Nat.le_of_ble_eq_true rfl) (Nat.le_of_ble_eq_true rfl) (Nat.le_of_ble_eq_true rfl) (Nat.le_of_ble_eq_true rfl) (Nat.le_refl _) rfl rfl dX12_areSeen_2 ?_
  obtain ⟨b7, e_b7, h⟩ := zbd_of h
  refine z_joinb b7 μ2 19 17 [(0, .ref (zb g + a0)), (1, .int v1), (2, .int v2)] [] (fun z20 => ?_) (fun z20 => ?_) (fun k18 k19 => ?_)
  · have h := zif_t z20 h
    refine z_aload_n C0 dX12_areSeen_19 rfl 0 rfl ?_
    refine z_iconst (v := (2 : Int32)) C0 dX12_areSeen_20 (by decide) ?_
    refine z_iload_n C0 dX12_areSeen_21 rfl 2 rfl ?_
    refine z_callS (As := [.int (2 : Int32), .int v2]) (rest := [.ref (zb g + a0)]) C0 rfl kc_X12_placeOf km_RX12_174 (r_X12_placeOf (l := l) (g := g) (μ := μ2) (2 : Int32) v2 rfl) rfl (Nat.le_of_ble_eq_true rfl) (Nat.le_of_ble_eq_true rfl) (Nat.le_of_ble_eq_true rfl) (Nat.le_of_ble_eq_true rfl) (Nat.le_refl _) rfl rfl dX12_areSeen_22 ?_
    obtain ⟨μ8, e_μ8, h⟩ := zl_of h
    refine z_puti C0 hT0.1 hT0.2.2.1 kf_12_366 zp_12_32 zr_12_32 e_μ8 dX12_areSeen_25 ?_
    refine z_aload_n C0 dX12_areSeen_28 rfl 0 rfl ?_
    refine z_iconst (v := (0 : Int32)) C0 dX12_areSeen_29 (by decide) ?_
    obtain ⟨μ9, e_μ9, h⟩ := zl_of h
    refine z_puti C0 hT0.1 hT0.2.2.1 kf_12_375 zp_12_33 zr_12_33 e_μ9 dX12_areSeen_30 ?_
    refine z_aload_n C0 dX12_areSeen_33 rfl 0 rfl ?_
    refine z_iconst (v := (0 : Int32)) C0 dX12_areSeen_34 (by decide) ?_
    obtain ⟨μ10, e_μ10, h⟩ := zbd_of h
    refine z_callV (As := [.int (0 : Int32)]) (rest := []) C0 rfl kc_X12_adds0 km_RX12_378 (r_X12_adds0 (l := l) (g := g) a0 (0 : Int32) μ9 hT0 e_μ10) hT0.1 hT0.2.2.1 rfl (by decide) rfl (Nat.le_of_ble_eq_true rfl) (Nat.le_of_ble_eq_true rfl) (Nat.le_of_ble_eq_true rfl) (Nat.le_of_ble_eq_true rfl) (Nat.le_refl _) rfl rfl dX12_areSeen_35 ?_
    refine z_aload_n C0 dX12_areSeen_38 rfl 0 rfl ?_
    refine z_aload_n C0 dX12_areSeen_39 rfl 0 rfl ?_
    refine z_iconst (v := (2 : Int32)) C0 dX12_areSeen_40 (by decide) ?_
    obtain ⟨r11, e_r11, h⟩ := zbd_of h
    refine z_callV (As := [.int (2 : Int32)]) (rest := [.ref (zb g + a0)]) C0 rfl kc_X12_of km_RX12_180 (r_X12_of (l := l) (g := g) a0 (2 : Int32) μ10 hT0 e_r11) hT0.1 hT0.2.2.1 rfl (by decide) rfl (Nat.le_of_ble_eq_true rfl) (Nat.le_of_ble_eq_true rfl) (Nat.le_of_ble_eq_true rfl) (Nat.le_of_ble_eq_true rfl) (Nat.le_refl _) rfl rfl dX12_areSeen_41 ?_
    refine z_iconst (v := (1 : Int32)) C0 dX12_areSeen_44 (by decide) ?_
    refine z_isub C0 dX12_areSeen_45 ?_
    obtain ⟨μ12, e_μ12, h⟩ := zbd_of h
    refine z_callV (As := [.int (r11 - (1 : Int32))]) (rest := []) C0 rfl kc_X12_adds0 km_RX12_378 (r_X12_adds0 (l := l) (g := g) a0 (r11 - (1 : Int32)) μ10 hT0 e_μ12) hT0.1 hT0.2.2.1 rfl (by decide) rfl (Nat.le_of_ble_eq_true rfl) (Nat.le_of_ble_eq_true rfl) (Nat.le_of_ble_eq_true rfl) (Nat.le_of_ble_eq_true rfl) (Nat.le_refl _) rfl rfl dX12_areSeen_46 ?_
    refine z_aload_n C0 dX12_areSeen_49 rfl 0 rfl ?_
    refine z_aload_n C0 dX12_areSeen_50 rfl 0 rfl ?_
    refine z_iconst (v := (2 : Int32)) C0 dX12_areSeen_51 (by decide) ?_
    obtain ⟨r13, e_r13, h⟩ := zbd_of h
    refine z_callV (As := [.int (2 : Int32)]) (rest := [.ref (zb g + a0)]) C0 rfl kc_X12_of km_RX12_180 (r_X12_of (l := l) (g := g) a0 (2 : Int32) μ12 hT0 e_r13) hT0.1 hT0.2.2.1 rfl (by decide) rfl (Nat.le_of_ble_eq_true rfl) (Nat.le_of_ble_eq_true rfl) (Nat.le_of_ble_eq_true rfl) (Nat.le_of_ble_eq_true rfl) (Nat.le_refl _) rfl rfl dX12_areSeen_52 ?_
    refine z_aload_n C0 dX12_areSeen_55 rfl 0 rfl ?_
    refine z_iconst (v := (3 : Int32)) C0 dX12_areSeen_56 (by decide) ?_
    obtain ⟨r14, e_r14, h⟩ := zbd_of h
    refine z_callV (As := [.int (3 : Int32)]) (rest := [.int r13, .ref (zb g + a0)]) C0 rfl kc_X12_of km_RX12_180 (r_X12_of (l := l) (g := g) a0 (3 : Int32) μ12 hT0 e_r14) hT0.1 hT0.2.2.1 rfl (by decide) rfl (Nat.le_of_ble_eq_true rfl) (Nat.le_of_ble_eq_true rfl) (Nat.le_of_ble_eq_true rfl) (Nat.le_of_ble_eq_true rfl) (Nat.le_refl _) rfl rfl dX12_areSeen_57 ?_
    refine z_iconst (v := (1 : Int32)) C0 dX12_areSeen_60 (by decide) ?_
    refine z_isub C0 dX12_areSeen_61 ?_
    refine z_imul C0 dX12_areSeen_62 ?_
    obtain ⟨μ15, e_μ15, h⟩ := zbd_of h
    refine z_callV (As := [.int (r13 * (r14 - (1 : Int32)))]) (rest := []) C0 rfl kc_X12_adds0 km_RX12_378 (r_X12_adds0 (l := l) (g := g) a0 (r13 * (r14 - (1 : Int32))) μ12 hT0 e_μ15) hT0.1 hT0.2.2.1 rfl (by decide) rfl (Nat.le_of_ble_eq_true rfl) (Nat.le_of_ble_eq_true rfl) (Nat.le_of_ble_eq_true rfl) (Nat.le_of_ble_eq_true rfl) (Nat.le_refl _) rfl rfl dX12_areSeen_63 ?_
    refine z_aload_n C0 dX12_areSeen_66 rfl 0 rfl ?_
    refine z_aload_n C0 dX12_areSeen_67 rfl 0 rfl ?_
    obtain ⟨r16, e_r16, h⟩ := zbd_of h
    refine z_callV (As := []) (rest := [.ref (zb g + a0)]) C0 rfl kc_X12_places km_RX12_257 (r_X12_places (l := l) (g := g) a0 μ15 hT0 e_r16) hT0.1 hT0.2.2.1 rfl (by decide) rfl (Nat.le_of_ble_eq_true rfl) (Nat.le_of_ble_eq_true rfl) (Nat.le_of_ble_eq_true rfl) (Nat.le_of_ble_eq_true rfl) (Nat.le_refl _) rfl rfl dX12_areSeen_68 ?_
    refine z_iconst (v := (1 : Int32)) C0 dX12_areSeen_71 (by decide) ?_
    refine z_isub C0 dX12_areSeen_72 ?_
    obtain ⟨μ17, e_μ17, h⟩ := zbd_of h
    refine z_callV (As := [.int (r16 - (1 : Int32))]) (rest := []) C0 rfl kc_X12_adds0 km_RX12_378 (r_X12_adds0 (l := l) (g := g) a0 (r16 - (1 : Int32)) μ15 hT0 e_μ17) hT0.1 hT0.2.2.1 rfl (by decide) rfl (Nat.le_of_ble_eq_true rfl) (Nat.le_of_ble_eq_true rfl) (Nat.le_of_ble_eq_true rfl) (Nat.le_of_ble_eq_true rfl) (Nat.le_refl _) rfl rfl dX12_areSeen_73 ?_
    refine z_iconst (v := (1 : Int32)) C0 dX12_areSeen_76 (by decide) ?_
    have h := Option.some.inj h
    obtain ⟨rfl, rfl⟩ := Prod.mk.inj h
    exact z_zret C0 rfl (by decide) dX12_areSeen_77
  · have h := zif_f (fun q => Bool.noConfusion (z20.symm.trans q)) h
    refine z_iconst (v := (0 : Int32)) C0 dX12_areSeen_17 (by decide) ?_
    have h := Option.some.inj h
    obtain ⟨rfl, rfl⟩ := Prod.mk.inj h
    exact z_zret C0 rfl (by decide) dX12_areSeen_18
  · have h := e_b7
    refine z_if_eq C0 17 dX12_areSeen_5 (by decide) (fun c3 => ?_) (fun c3 => ?_)
    · have h := zif_t c3 h
      exact k19 (Option.some.inj h).symm
    · have h := zif_f c3 h
      refine z_aload_n C0 dX12_areSeen_8 rfl 0 rfl ?_
      refine z_iconst (v := (2 : Int32)) C0 dX12_areSeen_9 (by decide) ?_
      refine z_iload_n C0 dX12_areSeen_10 rfl 2 rfl ?_
      obtain ⟨r5, e_r5, h⟩ := zbd_of h
      refine z_callV (As := [.int (2 : Int32), .int v2]) (rest := []) C0 rfl kc_X12_isOf km_RX12_144 (r_X12_isOf (l := l) (g := g) a0 (2 : Int32) v2 μ2 hT0 e_r5) hT0.1 hT0.2.2.1 rfl (by decide) rfl (Nat.le_of_ble_eq_true rfl) (Nat.le_of_ble_eq_true rfl) (Nat.le_of_ble_eq_true rfl) (Nat.le_of_ble_eq_true rfl) (Nat.le_refl _) rfl rfl dX12_areSeen_11 ?_
      refine z_if_ne C0 19 dX12_areSeen_14 (by decide) (fun c6 => ?_) (fun c6 => ?_)
      · have h := zif_t c6 h
        exact k18 (Option.some.inj h).symm
      · have h := zif_f (fun q => q c6) h
        exact k19 (Option.some.inj h).symm
def f_X12_areTold (a0 : Nat) (v1 : Int32) (v2 : Int32) (μ : zM) : Option (Int32 × zM) :=
  zbd2 (f_X12_isLake a0 v1 μ) fun r1 μ2 =>
  zbd (if r1 = 0 then
      some false
    else
      zbd (f_X12_isOf a0 (1 : Int32) v2 μ2) fun r5 =>
      if ¬ r5 = 0 then
        some true
      else
        some false) fun b7 =>
  if b7 = true then
    zl (zup μ2 a0 11 (f_X12_placeOf (1 : Int32) v2)) fun μ8 =>
    some ((1 : Int32), μ8)
  else
    some ((0 : Int32), μ2)
set_option maxHeartbeats 4000000 in
set_option maxRecDepth 100000 in
theorem r_X12_areTold {l : Launch} {g : zL} (a0 : Nat) (v1 : Int32) (v2 : Int32) (μ : zM) (hT0 : zT zNN zσ1 a0 12) {rv : Int32} {μr : zM} (h : f_X12_areTold a0 v1 v2 μ = some (rv, μr)) : zMet l g yX12_areTold cX12_areTold 3 (some (.boolean)) 3 0 0 zNN zNN zσ1 zσ1 [.ref (zb g + a0), .int v1, .int v2] μ (some (.int rv)) μr := by
  refine zMet.of (by decide +kernel) (Nat.le_of_ble_eq_true rfl) ?_
  intro p e s m args below meth c C0
  refine z_loc (lo1 := [(0, .ref (zb g + a0)), (1, .int v1), (2, .int v2)]) rfl ?_
  unfold f_X12_areTold at h
  refine z_aload_n C0 dX12_areTold_0 rfl 0 rfl ?_
  refine z_iload_n C0 dX12_areTold_1 rfl 1 rfl ?_
  obtain ⟨r1, μ2, e_r1, h⟩ := zbd2_of h
  refine z_callV (As := [.int v1]) (rest := []) C0 rfl kc_X12_isLake km_RX12_186 (r_X12_isLake (l := l) (g := g) a0 v1 μ hT0 e_r1) hT0.1 hT0.2.2.1 rfl (by decide) rfl (Nat.le_of_ble_eq_true rfl) (Nat.le_of_ble_eq_true rfl) (Nat.le_of_ble_eq_true rfl) (Nat.le_of_ble_eq_true rfl) (Nat.le_refl _) rfl rfl dX12_areTold_2 ?_
  obtain ⟨b7, e_b7, h⟩ := zbd_of h
  refine z_joinb b7 μ2 19 17 [(0, .ref (zb g + a0)), (1, .int v1), (2, .int v2)] [] (fun z11 => ?_) (fun z11 => ?_) (fun k9 k10 => ?_)
  · have h := zif_t z11 h
    refine z_aload_n C0 dX12_areTold_19 rfl 0 rfl ?_
    refine z_iconst (v := (1 : Int32)) C0 dX12_areTold_20 (by decide) ?_
    refine z_iload_n C0 dX12_areTold_21 rfl 2 rfl ?_
    refine z_callS (As := [.int (1 : Int32), .int v2]) (rest := [.ref (zb g + a0)]) C0 rfl kc_X12_placeOf km_RX12_174 (r_X12_placeOf (l := l) (g := g) (μ := μ2) (1 : Int32) v2 rfl) rfl (Nat.le_of_ble_eq_true rfl) (Nat.le_of_ble_eq_true rfl) (Nat.le_of_ble_eq_true rfl) (Nat.le_of_ble_eq_true rfl) (Nat.le_refl _) rfl rfl dX12_areTold_22 ?_
    obtain ⟨μ8, e_μ8, h⟩ := zl_of h
    refine z_puti C0 hT0.1 hT0.2.2.1 kf_12_209 zp_12_11 zr_12_11 e_μ8 dX12_areTold_25 ?_
    refine z_iconst (v := (1 : Int32)) C0 dX12_areTold_28 (by decide) ?_
    have h := Option.some.inj h
    obtain ⟨rfl, rfl⟩ := Prod.mk.inj h
    exact z_zret C0 rfl (by decide) dX12_areTold_29
  · have h := zif_f (fun q => Bool.noConfusion (z11.symm.trans q)) h
    refine z_iconst (v := (0 : Int32)) C0 dX12_areTold_17 (by decide) ?_
    have h := Option.some.inj h
    obtain ⟨rfl, rfl⟩ := Prod.mk.inj h
    exact z_zret C0 rfl (by decide) dX12_areTold_18
  · have h := e_b7
    refine z_if_eq C0 17 dX12_areTold_5 (by decide) (fun c3 => ?_) (fun c3 => ?_)
    · have h := zif_t c3 h
      exact k10 (Option.some.inj h).symm
    · have h := zif_f c3 h
      refine z_aload_n C0 dX12_areTold_8 rfl 0 rfl ?_
      refine z_iconst (v := (1 : Int32)) C0 dX12_areTold_9 (by decide) ?_
      refine z_iload_n C0 dX12_areTold_10 rfl 2 rfl ?_
      obtain ⟨r5, e_r5, h⟩ := zbd_of h
      refine z_callV (As := [.int (1 : Int32), .int v2]) (rest := []) C0 rfl kc_X12_isOf km_RX12_144 (r_X12_isOf (l := l) (g := g) a0 (1 : Int32) v2 μ2 hT0 e_r5) hT0.1 hT0.2.2.1 rfl (by decide) rfl (Nat.le_of_ble_eq_true rfl) (Nat.le_of_ble_eq_true rfl) (Nat.le_of_ble_eq_true rfl) (Nat.le_of_ble_eq_true rfl) (Nat.le_refl _) rfl rfl dX12_areTold_11 ?_
      refine z_if_ne C0 19 dX12_areTold_14 (by decide) (fun c6 => ?_) (fun c6 => ?_)
      · have h := zif_t c6 h
        exact k9 (Option.some.inj h).symm
      · have h := zif_f (fun q => q c6) h
        exact k10 (Option.some.inj h).symm
def f_X12_arm (a0 : Nat) (v1 : Int32) (v2 : Int32) (μ : zM) : Option (Int32) :=
  zbd (if ¬ v2 = 0 then
      zbd (f_X12_of a0 (2 : Int32) μ) fun r3 =>
      zg (znz r3) <|
      zbd (f_X12_of a0 (3 : Int32) μ) fun r5 =>
      some ((((2 : Int32) * (v1 / r3)) + (1 : Int32)) - r5)
    else
      zbd (f_X12_of a0 (2 : Int32) μ) fun r6 =>
      zg (znz r6) <|
      zbd (f_X12_of a0 (2 : Int32) μ) fun r8 =>
      some ((((2 : Int32) * (v1 % r6)) + (1 : Int32)) - r8)) fun x9 =>
  some x9
set_option maxHeartbeats 4000000 in
set_option maxRecDepth 100000 in
theorem r_X12_arm {l : Launch} {g : zL} (a0 : Nat) (v1 : Int32) (v2 : Int32) (μ : zM) (hT0 : zT zNN zσ1 a0 12) {rv : Int32} (h : f_X12_arm a0 v1 v2 μ = some rv) : zMet l g yX12_arm cX12_arm 3 (some (.int)) 1 0 0 zNN zNN zσ1 zσ1 [.ref (zb g + a0), .int v1, .int v2] μ (some (.int rv)) μ := by
  refine zMet.of (by decide +kernel) (Nat.le_of_ble_eq_true rfl) ?_
  intro p e s m args below meth c C0
  refine z_loc (lo1 := [(0, .ref (zb g + a0)), (1, .int v1), (2, .int v2)]) rfl ?_
  unfold f_X12_arm at h
  refine z_iload_n C0 dX12_arm_0 rfl 2 rfl ?_
  obtain ⟨x9, e_x9, h⟩ := zbd_of h
  refine z_join μ 41 [] [.int x9] ?_ (fun k_J2 => ?_)
  · have h := Option.some.inj h
    obtain rfl := h
    exact z_iret C0 rfl dX12_arm_41
  · have h := e_x9
    refine z_if_ne C0 24 dX12_arm_1 (by decide) (fun c1 => ?_) (fun c1 => ?_)
    · have h := zif_t c1 h
      refine z_iconst (v := (2 : Int32)) C0 dX12_arm_24 (by decide) ?_
      refine z_iload_n C0 dX12_arm_25 rfl 1 rfl ?_
      refine z_aload_n C0 dX12_arm_26 rfl 0 rfl ?_
      refine z_iconst (v := (2 : Int32)) C0 dX12_arm_27 (by decide) ?_
      obtain ⟨r3, e_r3, h⟩ := zbd_of h
      refine z_callV (As := [.int (2 : Int32)]) (rest := [.int v1, .int (2 : Int32)]) C0 rfl kc_X12_of km_RX12_180 (r_X12_of (l := l) (g := g) a0 (2 : Int32) μ hT0 e_r3) hT0.1 hT0.2.2.1 rfl (by decide) rfl (Nat.le_of_ble_eq_true rfl) (Nat.le_of_ble_eq_true rfl) (Nat.le_of_ble_eq_true rfl) (Nat.le_of_ble_eq_true rfl) (Nat.le_refl _) rfl rfl dX12_arm_28 ?_
      obtain ⟨g4, h⟩ := zg_of h
      refine z_idiv C0 dX12_arm_31 g4 ?_
      refine z_imul C0 dX12_arm_32 ?_
      refine z_iconst (v := (1 : Int32)) C0 dX12_arm_33 (by decide) ?_
      refine z_iadd C0 dX12_arm_34 ?_
      refine z_aload_n C0 dX12_arm_35 rfl 0 rfl ?_
      refine z_iconst (v := (3 : Int32)) C0 dX12_arm_36 (by decide) ?_
      obtain ⟨r5, e_r5, h⟩ := zbd_of h
      refine z_callV (As := [.int (3 : Int32)]) (rest := [.int (((2 : Int32) * (v1 / r3)) + (1 : Int32))]) C0 rfl kc_X12_of km_RX12_180 (r_X12_of (l := l) (g := g) a0 (3 : Int32) μ hT0 e_r5) hT0.1 hT0.2.2.1 rfl (by decide) rfl (Nat.le_of_ble_eq_true rfl) (Nat.le_of_ble_eq_true rfl) (Nat.le_of_ble_eq_true rfl) (Nat.le_of_ble_eq_true rfl) (Nat.le_refl _) rfl rfl dX12_arm_37 ?_
      refine z_isub C0 dX12_arm_40 ?_
      refine z_sub (lo1 := []) [] rfl ?_
      obtain rfl := (Option.some.inj h)
      exact k_J2
    · have h := zif_f (fun q => q c1) h
      refine z_iconst (v := (2 : Int32)) C0 dX12_arm_4 (by decide) ?_
      refine z_iload_n C0 dX12_arm_5 rfl 1 rfl ?_
      refine z_aload_n C0 dX12_arm_6 rfl 0 rfl ?_
      refine z_iconst (v := (2 : Int32)) C0 dX12_arm_7 (by decide) ?_
      obtain ⟨r6, e_r6, h⟩ := zbd_of h
      refine z_callV (As := [.int (2 : Int32)]) (rest := [.int v1, .int (2 : Int32)]) C0 rfl kc_X12_of km_RX12_180 (r_X12_of (l := l) (g := g) a0 (2 : Int32) μ hT0 e_r6) hT0.1 hT0.2.2.1 rfl (by decide) rfl (Nat.le_of_ble_eq_true rfl) (Nat.le_of_ble_eq_true rfl) (Nat.le_of_ble_eq_true rfl) (Nat.le_of_ble_eq_true rfl) (Nat.le_refl _) rfl rfl dX12_arm_8 ?_
      obtain ⟨g7, h⟩ := zg_of h
      refine z_irem C0 dX12_arm_11 g7 ?_
      refine z_imul C0 dX12_arm_12 ?_
      refine z_iconst (v := (1 : Int32)) C0 dX12_arm_13 (by decide) ?_
      refine z_iadd C0 dX12_arm_14 ?_
      refine z_aload_n C0 dX12_arm_15 rfl 0 rfl ?_
      refine z_iconst (v := (2 : Int32)) C0 dX12_arm_16 (by decide) ?_
      obtain ⟨r8, e_r8, h⟩ := zbd_of h
      refine z_callV (As := [.int (2 : Int32)]) (rest := [.int (((2 : Int32) * (v1 % r6)) + (1 : Int32))]) C0 rfl kc_X12_of km_RX12_180 (r_X12_of (l := l) (g := g) a0 (2 : Int32) μ hT0 e_r8) hT0.1 hT0.2.2.1 rfl (by decide) rfl (Nat.le_of_ble_eq_true rfl) (Nat.le_of_ble_eq_true rfl) (Nat.le_of_ble_eq_true rfl) (Nat.le_of_ble_eq_true rfl) (Nat.le_refl _) rfl rfl dX12_arm_17 ?_
      refine z_isub C0 dX12_arm_20 ?_
      refine z_goto C0 41 dX12_arm_21 (by decide) ?_
      refine z_sub (lo1 := []) [] rfl ?_
      obtain rfl := (Option.some.inj h)
      exact k_J2
def f_X12_axisOf (v0 : Int32) : Int32 :=
  zl (if (¬ (v0 = 0)) ∧ (¬ v0 = (2 : Int32)) then
      (0 : Int32)
    else
      (1 : Int32)) fun x4 =>
  x4
set_option maxHeartbeats 4000000 in
set_option maxRecDepth 100000 in
theorem r_X12_axisOf {l : Launch} {g : zL} (v0 : Int32) {μ : zM}  {rv : Int32} (h : f_X12_axisOf v0 = rv) : zMet l g yX12_axisOf cX12_axisOf 1 (some (.int)) 0 0 0 zNN zNN zσ1 zσ1 [.int v0] μ (some (.int rv)) μ := by
  refine zMet.of (by decide +kernel) (Nat.le_of_ble_eq_true rfl) ?_
  intro p e s m args below meth c C0
  refine z_loc (lo1 := [(0, .int v0)]) rfl ?_
  unfold f_X12_axisOf at h
  refine z_iload_n C0 dX12_axisOf_0 rfl 0 rfl ?_
  obtain ⟨x4, e_x4, h⟩ := zl_of h
  refine z_join μ 14 [] [.int x4] ?_ (fun k_J3 => ?_)
  · skip
    obtain rfl := h
    exact z_iret C0 rfl dX12_axisOf_14
  · have h := e_x4.symm
    by_cases hc5 : (¬ (v0 = 0)) ∧ (¬ v0 = (2 : Int32))
    · have h := zif_t hc5 h
      refine z_join μ 13 [(0, .int v0)] [] ?_ (fun k6 => ?_)
      · refine z_iconst (v := (0 : Int32)) C0 dX12_axisOf_13 (by decide) ?_
        refine z_sub (lo1 := []) [] rfl ?_
        obtain rfl := h
        exact k_J3
      · refine z_if_eq C0 9 dX12_axisOf_1 (by decide) (fun c1 => ?_) (fun c1 => ?_)
        · exact absurd hc5 (fun q => q.1 c1)
        · refine z_iload_n C0 dX12_axisOf_4 rfl 0 rfl ?_
          refine z_iconst (v := (2 : Int32)) C0 dX12_axisOf_5 (by decide) ?_
          refine z_icmp_ne C0 13 dX12_axisOf_6 (by decide) (fun c2 => ?_) (fun c2 => ?_)
          · exact k6
          · exact absurd hc5 (fun q => (fun q => q c2) q.2)
    · have h := zif_f hc5 h
      refine z_join μ 9 [(0, .int v0)] [] ?_ (fun k7 => ?_)
      · refine z_iconst (v := (1 : Int32)) C0 dX12_axisOf_9 (by decide) ?_
        refine z_goto C0 14 dX12_axisOf_10 (by decide) ?_
        refine z_sub (lo1 := []) [] rfl ?_
        obtain rfl := h
        exact k_J3
      · refine z_if_eq C0 9 dX12_axisOf_1 (by decide) (fun c1 => ?_) (fun c1 => ?_)
        · exact k7
        · refine z_iload_n C0 dX12_axisOf_4 rfl 0 rfl ?_
          refine z_iconst (v := (2 : Int32)) C0 dX12_axisOf_5 (by decide) ?_
          refine z_icmp_ne C0 13 dX12_axisOf_6 (by decide) (fun c2 => ?_) (fun c2 => ?_)
          · exact absurd ⟨c1, c2⟩ hc5
          · exact k7
def f_X12_worst_L5 (a0 : Nat) (v1 : Int32) (v2 : Int32) (μ4 : zM) : Nat → Int32 → Int32 → Option (Int32)
  | 0, _, _ => none
  | n + 1, y2, y3 =>
    if v1 ≤ y3 then
      some y2
    else
      zbd (f_X12_of a0 (15 : Int32) μ4) fun r6 =>
      zl (y2 * r6) fun x7 =>
      zl (y3 + (1 : Int32)) fun x8 =>
      f_X12_worst_L5 a0 v1 v2 μ4 n x7 x8
def f_X12_worst_L29 (a0 : Nat) (v1 : Int32) (v2 : Int32) (x9 : Int32) : Nat → Int32 → zM → Option (zM)
  | 0, _, _ => none
  | n + 1, y11, μ12 =>
    if (16 : Int32) ≤ y11 then
      some μ12
    else
      zg (zin y11 16) <|
      zl (zup μ12 (a0 + 5) (y11.toNatClampNeg) (0 : Int32)) fun μ15 =>
      zl (y11 + (1 : Int32)) fun x16 =>
      f_X12_worst_L29 a0 v1 v2 x9 n x16 μ15
def f_X12_worst_L68 (a0 : Nat) (v1 : Int32) (v2 : Int32) (y19 : Int32) (y20 : Int32) (y21 : Int32) : Nat → Int32 → Int32 → zM → Option (Int32 × zM)
  | 0, _, _, _ => none
  | n + 1, y25, y26, μ27 =>
    zbd (f_X12_of a0 (15 : Int32) μ27) fun r28 =>
    if r28 ≤ y26 then
      some (y25, μ27)
    else
      zg (zin y26 16) <|
      zbd (f_X12_of a0 (((101 : Int32) + ((2 : Int32) * y26)) + (1 : Int32)) μ27) fun r31 =>
      zl (zup μ27 (a0 + 5) (y26.toNatClampNeg) ((μ27 (a0 + 5) (y26.toNatClampNeg)) + r31)) fun μ32 =>
      zl (y25 + (μ32 (a0 + 5) (y26.toNatClampNeg))) fun x33 =>
      zl (y26 + (1 : Int32)) fun x34 =>
      f_X12_worst_L68 a0 v1 v2 y19 y20 y21 n x33 x34 μ32
def f_X12_worst_L56 (a0 : Nat) (v1 : Int32) (v2 : Int32) : Nat → Int32 → Int32 → Int32 → zM → Option (Int32 × zM)
  | 0, _, _, _, _ => none
  | n + 1, y19, y20, y21, μ22 =>
    if v1 ≤ y21 then
      some (y20, μ22)
    else
      zbd2 (f_X12_worst_L68 a0 v1 v2 y19 y20 y21 zFU (0 : Int32) (0 : Int32) μ22) fun x35 μ36 =>
      zl (if x35 ≤ y20 then
          y20
        else
          x35) fun x39 =>
      zg (znz y19) <|
      zbd (f_X12_of a0 (15 : Int32) μ36) fun r41 =>
      zg (znz r41) <|
      zg (zin ((v2 / y19) % r41) 16) <|
      zl (zup μ36 (a0 + 5) (((v2 / y19) % r41).toNatClampNeg) (0 : Int32)) fun μ44 =>
      zbd (f_X12_of a0 (15 : Int32) μ44) fun r45 =>
      zg (znz r45) <|
      zl (y19 / r45) fun x47 =>
      zl (y21 + (1 : Int32)) fun x48 =>
      f_X12_worst_L56 a0 v1 v2 n x47 x39 x48 μ44
def f_X12_worst (a0 : Nat) (v1 : Int32) (v2 : Int32) (μ : zM) : Option (Int32 × zM) :=
  zbd (f_X12_worst_L5 a0 v1 v2 μ zFU (1 : Int32) (1 : Int32)) fun x9 =>
  zbd (f_X12_worst_L29 a0 v1 v2 x9 zFU (0 : Int32) μ) fun μ17 =>
  zbd2 (f_X12_worst_L56 a0 v1 v2 zFU x9 (0 : Int32) (0 : Int32) μ17) fun x49 μ50 =>
  some (x49, μ50)
set_option maxHeartbeats 4000000 in
set_option maxRecDepth 100000 in
theorem r_X12_worst_L5 {l : Launch} {g : zL} {p : Program} {e : Env} {s : State} {m : MethodId} {args : Array Value} {below : List Frame} {meth : Method} {c : Code} {Q : State → Prop} (C0 : zC p s m args meth c g cX12_worst yX12_worst 8 (some (.int))) (a0 : Nat) (v1 : Int32) (v2 : Int32) (μ4 : zM) (hU1 : zT zNN zσ1 a0 12) : ∀ (n : Nat) (y2 : Int32) (y3 : Int32) (x9 : Int32), f_X12_worst_L5 a0 v1 v2 μ4 n y2 y3 = some x9 → Z p l e (zrm 1 0 0) s m args below meth c g Q 8 zNN 0 0 zσ1 μ4 26 [(0, .ref (zb g + a0)), (1, .int v1), (2, .int v2), (3, .int x9)] [] → Z p l e (zrm 1 0 0) s m args below meth c g Q 8 zNN 0 0 zσ1 μ4 5 [(0, .ref (zb g + a0)), (1, .int v1), (2, .int v2), (3, .int y2), (4, .int y3)] [] := by
  intro n
  induction n with
  | zero =>
    intro y2 y3 x9 h kx
    rw [f_X12_worst_L5] at h
    cases h
  | succ n ih =>
    intro y2 y3 x9 h kx
    rw [f_X12_worst_L5] at h
    refine z_iload C0 dX12_worst_5 4 rfl ?_
    refine z_iload_n C0 dX12_worst_7 rfl 1 rfl ?_
    refine z_icmp_ge C0 26 dX12_worst_8 (by decide) (fun c5 => ?_) (fun c5 => ?_)
    · have h := zif_t c5 h
      refine z_sub (lo1 := [(0, .ref (zb g + a0)), (1, .int v1), (2, .int v2), (3, .int y2)]) [0, 1, 2, 3] rfl ?_
      obtain rfl := (Option.some.inj h)
      exact kx
    · have h := zif_f c5 h
      refine z_iload_n C0 dX12_worst_11 rfl 3 rfl ?_
      refine z_aload_n C0 dX12_worst_12 rfl 0 rfl ?_
      refine z_bipush (v := (15 : Int32)) C0 dX12_worst_13 (by decide) ?_
      obtain ⟨r6, e_r6, h⟩ := zbd_of h
      refine z_callV (As := [.int (15 : Int32)]) (rest := [.int y2]) C0 rfl kc_X12_of km_RX12_180 (r_X12_of (l := l) (g := g) a0 (15 : Int32) μ4 hU1 e_r6) hU1.1 hU1.2.2.1 rfl (by decide) rfl (Nat.le_of_ble_eq_true rfl) (Nat.le_of_ble_eq_true rfl) (Nat.le_of_ble_eq_true rfl) (Nat.le_of_ble_eq_true rfl) (Nat.le_refl _) rfl rfl dX12_worst_15 ?_
      refine z_imul C0 dX12_worst_18 ?_
      obtain ⟨x7, e_x7, h⟩ := zl_of h
      refine z_nm e_x7 ?_
      refine z_istore_n (lo1 := [(3, .int x7), (0, .ref (zb g + a0)), (1, .int v1), (2, .int v2), (4, .int y3)]) C0 dX12_worst_19 rfl (by decide) rfl ?_
      obtain ⟨x8, e_x8, h⟩ := zl_of h
      refine z_iinc (lo1 := [(4, .int x8), (3, .int x7), (0, .ref (zb g + a0)), (1, .int v1), (2, .int v2)]) C0 dX12_worst_20 4 rfl (by decide) e_x8.symm (by decide) rfl ?_
      refine z_goto C0 5 dX12_worst_23 (by decide) ?_
      refine z_sub (lo1 := [(0, .ref (zb g + a0)), (1, .int v1), (2, .int v2), (3, .int x7), (4, .int x8)]) [2, 3, 4, 1, 0] rfl ?_
      exact ih _ _ _ h kx
set_option maxHeartbeats 4000000 in
set_option maxRecDepth 100000 in
theorem r_X12_worst_L29 {l : Launch} {g : zL} {p : Program} {e : Env} {s : State} {m : MethodId} {args : Array Value} {below : List Frame} {meth : Method} {c : Code} {Q : State → Prop} (C0 : zC p s m args meth c g cX12_worst yX12_worst 8 (some (.int))) (a0 : Nat) (v1 : Int32) (v2 : Int32) (x9 : Int32) (hU10 : zT zNN zσ1 a0 12) : ∀ (n : Nat) (y11 : Int32) (μ12 : zM) (μ17 : zM), f_X12_worst_L29 a0 v1 v2 x9 n y11 μ12 = some μ17 → Z p l e (zrm 1 0 0) s m args below meth c g Q 8 zNN 0 0 zσ1 μ17 50 [(0, .ref (zb g + a0)), (1, .int v1), (2, .int v2), (3, .int x9)] [] → Z p l e (zrm 1 0 0) s m args below meth c g Q 8 zNN 0 0 zσ1 μ12 29 [(0, .ref (zb g + a0)), (1, .int v1), (2, .int v2), (3, .int x9), (4, .int y11)] [] := by
  intro n
  induction n with
  | zero =>
    intro y11 μ12 μ17 h kx
    rw [f_X12_worst_L29] at h
    cases h
  | succ n ih =>
    intro y11 μ12 μ17 h kx
    rw [f_X12_worst_L29] at h
    refine z_iload C0 dX12_worst_29 4 rfl ?_
    refine z_bipush (v := (16 : Int32)) C0 dX12_worst_31 (by decide) ?_
    refine z_icmp_ge C0 50 dX12_worst_33 (by decide) (fun c13 => ?_) (fun c13 => ?_)
    · have h := zif_t c13 h
      refine z_sub (lo1 := [(0, .ref (zb g + a0)), (1, .int v1), (2, .int v2), (3, .int x9)]) [0, 1, 2, 3] rfl ?_
      obtain rfl := (Option.some.inj h)
      exact kx
    · have h := zif_f c13 h
      refine z_aload_n C0 dX12_worst_36 rfl 0 rfl ?_
      refine z_getr C0 hU10 kf_12_23 zr_12_24 zx_12 (zs_12_24 hU10).1 dX12_worst_37 ?_
      refine z_iload C0 dX12_worst_40 4 rfl ?_
      refine z_iconst (v := (0 : Int32)) C0 dX12_worst_42 (by decide) ?_
      obtain ⟨g14, h⟩ := zg_of h
      obtain ⟨μ15, e_μ15, h⟩ := zl_of h
      refine z_iast C0 (zs_12_24 hU10).2 g14 rfl e_μ15 dX12_worst_43 ?_
      obtain ⟨x16, e_x16, h⟩ := zl_of h
      refine z_iinc (lo1 := [(4, .int x16), (0, .ref (zb g + a0)), (1, .int v1), (2, .int v2), (3, .int x9)]) C0 dX12_worst_44 4 rfl (by decide) e_x16.symm (by decide) rfl ?_
      refine z_goto C0 29 dX12_worst_47 (by decide) ?_
      refine z_sub (lo1 := [(0, .ref (zb g + a0)), (1, .int v1), (2, .int v2), (3, .int x9), (4, .int x16)]) [1, 2, 3, 4, 0] rfl ?_
      exact ih _ _ _ h kx
set_option maxHeartbeats 4000000 in
set_option maxRecDepth 100000 in
theorem r_X12_worst_L68 {l : Launch} {g : zL} {p : Program} {e : Env} {s : State} {m : MethodId} {args : Array Value} {below : List Frame} {meth : Method} {c : Code} {Q : State → Prop} (C0 : zC p s m args meth c g cX12_worst yX12_worst 8 (some (.int))) (a0 : Nat) (v1 : Int32) (v2 : Int32) (y19 : Int32) (y20 : Int32) (y21 : Int32) (hU24 : zT zNN zσ1 a0 12) : ∀ (n : Nat) (y25 : Int32) (y26 : Int32) (μ27 : zM) (x35 : Int32) (μ36 : zM), f_X12_worst_L68 a0 v1 v2 y19 y20 y21 n y25 y26 μ27 = some (x35, μ36) → Z p l e (zrm 1 0 0) s m args below meth c g Q 8 zNN 0 0 zσ1 μ36 120 [(0, .ref (zb g + a0)), (1, .int v1), (2, .int v2), (3, .int y19), (4, .int y20), (5, .int y21), (6, .int x35)] [] → Z p l e (zrm 1 0 0) s m args below meth c g Q 8 zNN 0 0 zσ1 μ27 68 [(0, .ref (zb g + a0)), (1, .int v1), (2, .int v2), (3, .int y19), (4, .int y20), (5, .int y21), (6, .int y25), (7, .int y26)] [] := by
  intro n
  induction n with
  | zero =>
    intro y25 y26 μ27 x35 μ36 h kx
    rw [f_X12_worst_L68] at h
    cases h
  | succ n ih =>
    intro y25 y26 μ27 x35 μ36 h kx
    rw [f_X12_worst_L68] at h
    refine z_iload C0 dX12_worst_68 7 rfl ?_
    refine z_aload_n C0 dX12_worst_70 rfl 0 rfl ?_
    refine z_bipush (v := (15 : Int32)) C0 dX12_worst_71 (by decide) ?_
    obtain ⟨r28, e_r28, h⟩ := zbd_of h
    refine z_callV (As := [.int (15 : Int32)]) (rest := [.int y26]) C0 rfl kc_X12_of km_RX12_180 (r_X12_of (l := l) (g := g) a0 (15 : Int32) μ27 hU24 e_r28) hU24.1 hU24.2.2.1 rfl (by decide) rfl (Nat.le_of_ble_eq_true rfl) (Nat.le_of_ble_eq_true rfl) (Nat.le_of_ble_eq_true rfl) (Nat.le_of_ble_eq_true rfl) (Nat.le_refl _) rfl rfl dX12_worst_73 ?_
    refine z_icmp_ge C0 120 dX12_worst_76 (by decide) (fun c29 => ?_) (fun c29 => ?_)
    · have h := zif_t c29 h
      refine z_sub (lo1 := [(0, .ref (zb g + a0)), (1, .int v1), (2, .int v2), (3, .int y19), (4, .int y20), (5, .int y21), (6, .int y25)]) [0, 1, 2, 3, 4, 5, 6] rfl ?_
      obtain ⟨rfl, rfl⟩ := Prod.mk.inj (Option.some.inj h)
      exact kx
    · have h := zif_f c29 h
      refine z_aload_n C0 dX12_worst_79 rfl 0 rfl ?_
      refine z_getr C0 hU24 kf_12_23 zr_12_24 zx_12 (zs_12_24 hU24).1 dX12_worst_80 ?_
      refine z_iload C0 dX12_worst_83 7 rfl ?_
      refine z_dup2 C0 dX12_worst_85 rfl rfl ?_
      obtain ⟨g30, h⟩ := zg_of h
      refine z_iald C0 (zs_12_24 hU24).2 g30 rfl dX12_worst_86 ?_
      refine z_aload_n C0 dX12_worst_87 rfl 0 rfl ?_
      refine z_bipush (v := (101 : Int32)) C0 dX12_worst_88 (by decide) ?_
      refine z_iconst (v := (2 : Int32)) C0 dX12_worst_90 (by decide) ?_
      refine z_iload C0 dX12_worst_91 7 rfl ?_
      refine z_imul C0 dX12_worst_93 ?_
      refine z_iadd C0 dX12_worst_94 ?_
      refine z_iconst (v := (1 : Int32)) C0 dX12_worst_95 (by decide) ?_
      refine z_iadd C0 dX12_worst_96 ?_
      obtain ⟨r31, e_r31, h⟩ := zbd_of h
      refine z_callV (As := [.int (((101 : Int32) + ((2 : Int32) * y26)) + (1 : Int32))]) (rest := [.int (μ27 (a0 + 5) (y26.toNatClampNeg)), .int y26, .ref (zb g + (a0 + 5))]) C0 rfl kc_X12_of km_RX12_180 (r_X12_of (l := l) (g := g) a0 (((101 : Int32) + ((2 : Int32) * y26)) + (1 : Int32)) μ27 hU24 e_r31) hU24.1 hU24.2.2.1 rfl (by decide) rfl (Nat.le_of_ble_eq_true rfl) (Nat.le_of_ble_eq_true rfl) (Nat.le_of_ble_eq_true rfl) (Nat.le_of_ble_eq_true rfl) (Nat.le_refl _) rfl rfl dX12_worst_97 ?_
      refine z_iadd C0 dX12_worst_100 ?_
      obtain ⟨μ32, e_μ32, h⟩ := zl_of h
      refine z_iast C0 (zs_12_24 hU24).2 g30 rfl e_μ32 dX12_worst_101 ?_
      refine z_iload C0 dX12_worst_102 6 rfl ?_
      refine z_aload_n C0 dX12_worst_104 rfl 0 rfl ?_
      refine z_getr C0 hU24 kf_12_23 zr_12_24 zx_12 (zs_12_24 hU24).1 dX12_worst_105 ?_
      refine z_iload C0 dX12_worst_108 7 rfl ?_
      refine z_iald C0 (zs_12_24 hU24).2 g30 rfl dX12_worst_110 ?_
      refine z_iadd C0 dX12_worst_111 ?_
      obtain ⟨x33, e_x33, h⟩ := zl_of h
      refine z_nm e_x33 ?_
      refine z_istore (lo1 := [(6, .int x33), (0, .ref (zb g + a0)), (1, .int v1), (2, .int v2), (3, .int y19), (4, .int y20), (5, .int y21), (7, .int y26)]) C0 dX12_worst_112 (by decide) rfl ?_
      obtain ⟨x34, e_x34, h⟩ := zl_of h
      refine z_iinc (lo1 := [(7, .int x34), (6, .int x33), (0, .ref (zb g + a0)), (1, .int v1), (2, .int v2), (3, .int y19), (4, .int y20), (5, .int y21)]) C0 dX12_worst_114 7 rfl (by decide) e_x34.symm (by decide) rfl ?_
      refine z_goto C0 68 dX12_worst_117 (by decide) ?_
      refine z_sub (lo1 := [(0, .ref (zb g + a0)), (1, .int v1), (2, .int v2), (3, .int y19), (4, .int y20), (5, .int y21), (6, .int x33), (7, .int x34)]) [2, 3, 4, 5, 6, 7, 1, 0] rfl ?_
      exact ih _ _ _ _ _ h kx
set_option maxHeartbeats 4000000 in
set_option maxRecDepth 100000 in
theorem r_X12_worst_L56 {l : Launch} {g : zL} {p : Program} {e : Env} {s : State} {m : MethodId} {args : Array Value} {below : List Frame} {meth : Method} {c : Code} {Q : State → Prop} (C0 : zC p s m args meth c g cX12_worst yX12_worst 8 (some (.int))) (a0 : Nat) (v1 : Int32) (v2 : Int32) (hU18 : zT zNN zσ1 a0 12) : ∀ (n : Nat) (y19 : Int32) (y20 : Int32) (y21 : Int32) (μ22 : zM) (x49 : Int32) (μ50 : zM), f_X12_worst_L56 a0 v1 v2 n y19 y20 y21 μ22 = some (x49, μ50) → Z p l e (zrm 1 0 0) s m args below meth c g Q 8 zNN 0 0 zσ1 μ50 167 [(4, .int x49)] [] → Z p l e (zrm 1 0 0) s m args below meth c g Q 8 zNN 0 0 zσ1 μ22 56 [(0, .ref (zb g + a0)), (1, .int v1), (2, .int v2), (3, .int y19), (4, .int y20), (5, .int y21)] [] := by
  intro n
  induction n with
  | zero =>
    intro y19 y20 y21 μ22 x49 μ50 h kx
    rw [f_X12_worst_L56] at h
    cases h
  | succ n ih =>
    intro y19 y20 y21 μ22 x49 μ50 h kx
    rw [f_X12_worst_L56] at h
    refine z_iload C0 dX12_worst_56 5 rfl ?_
    refine z_iload_n C0 dX12_worst_58 rfl 1 rfl ?_
    refine z_icmp_ge C0 167 dX12_worst_59 (by decide) (fun c23 => ?_) (fun c23 => ?_)
    · have h := zif_t c23 h
      refine z_sub (lo1 := [(4, .int y20)]) [4] rfl ?_
      obtain ⟨rfl, rfl⟩ := Prod.mk.inj (Option.some.inj h)
      exact kx
    · have h := zif_f c23 h
      refine z_iconst (v := (0 : Int32)) C0 dX12_worst_62 (by decide) ?_
      refine z_istore (lo1 := [(6, .int (0 : Int32)), (0, .ref (zb g + a0)), (1, .int v1), (2, .int v2), (3, .int y19), (4, .int y20), (5, .int y21)]) C0 dX12_worst_63 (by decide) rfl ?_
      refine z_iconst (v := (0 : Int32)) C0 dX12_worst_65 (by decide) ?_
      refine z_istore (lo1 := [(7, .int (0 : Int32)), (6, .int (0 : Int32)), (0, .ref (zb g + a0)), (1, .int v1), (2, .int v2), (3, .int y19), (4, .int y20), (5, .int y21)]) C0 dX12_worst_66 (by decide) rfl ?_
      refine z_sub (lo1 := [(0, .ref (zb g + a0)), (1, .int v1), (2, .int v2), (3, .int y19), (4, .int y20), (5, .int y21), (6, .int (0 : Int32)), (7, .int (0 : Int32))]) [2, 3, 4, 5, 6, 7, 1, 0] rfl ?_
      obtain ⟨x35, μ36, e_x35, h⟩ := zbd2_of h
      refine r_X12_worst_L68 C0 a0 v1 v2 y19 y20 y21 hU18 zFU (0 : Int32) (0 : Int32) μ22 x35 μ36 e_x35 ?_
      refine z_iload C0 dX12_worst_120 6 rfl ?_
      refine z_iload C0 dX12_worst_122 4 rfl ?_
      obtain ⟨x39, e_x39, h⟩ := zl_of h
      refine z_join μ36 134 [(0, .ref (zb g + a0)), (1, .int v1), (2, .int v2), (3, .int y19), (5, .int y21)] [.int x39] ?_ (fun k_J38 => ?_)
      · refine z_istore (lo1 := [(4, .int x39), (0, .ref (zb g + a0)), (1, .int v1), (2, .int v2), (3, .int y19), (5, .int y21)]) C0 dX12_worst_134 (by decide) rfl ?_
        refine z_aload_n C0 dX12_worst_136 rfl 1 rfl ?_
        refine z_getr C0 hU18 kf_12_23 zr_12_24 zx_12 (zs_12_24 hU18).1 dX12_worst_137 ?_
        refine z_iload_n C0 dX12_worst_140 rfl 3 rfl ?_
        refine z_iload_n C0 dX12_worst_141 rfl 4 rfl ?_
        obtain ⟨g40, h⟩ := zg_of h
        refine z_idiv C0 dX12_worst_142 g40 ?_
        refine z_aload_n C0 dX12_worst_143 rfl 1 rfl ?_
        refine z_bipush (v := (15 : Int32)) C0 dX12_worst_144 (by decide) ?_
        obtain ⟨r41, e_r41, h⟩ := zbd_of h
        refine z_callV (As := [.int (15 : Int32)]) (rest := [.int (v2 / y19), .ref (zb g + (a0 + 5))]) C0 rfl kc_X12_of km_RX12_180 (r_X12_of (l := l) (g := g) a0 (15 : Int32) μ36 hU18 e_r41) hU18.1 hU18.2.2.1 rfl (by decide) rfl (Nat.le_of_ble_eq_true rfl) (Nat.le_of_ble_eq_true rfl) (Nat.le_of_ble_eq_true rfl) (Nat.le_of_ble_eq_true rfl) (Nat.le_refl _) rfl rfl dX12_worst_146 ?_
        obtain ⟨g42, h⟩ := zg_of h
        refine z_irem C0 dX12_worst_149 g42 ?_
        refine z_iconst (v := (0 : Int32)) C0 dX12_worst_150 (by decide) ?_
        obtain ⟨g43, h⟩ := zg_of h
        obtain ⟨μ44, e_μ44, h⟩ := zl_of h
        refine z_iast C0 (zs_12_24 hU18).2 g43 rfl e_μ44 dX12_worst_151 ?_
        refine z_iload_n C0 dX12_worst_152 rfl 4 rfl ?_
        refine z_aload_n C0 dX12_worst_153 rfl 1 rfl ?_
        refine z_bipush (v := (15 : Int32)) C0 dX12_worst_154 (by decide) ?_
        obtain ⟨r45, e_r45, h⟩ := zbd_of h
        refine z_callV (As := [.int (15 : Int32)]) (rest := [.int y19]) C0 rfl kc_X12_of km_RX12_180 (r_X12_of (l := l) (g := g) a0 (15 : Int32) μ44 hU18 e_r45) hU18.1 hU18.2.2.1 rfl (by decide) rfl (Nat.le_of_ble_eq_true rfl) (Nat.le_of_ble_eq_true rfl) (Nat.le_of_ble_eq_true rfl) (Nat.le_of_ble_eq_true rfl) (Nat.le_refl _) rfl rfl dX12_worst_156 ?_
        obtain ⟨g46, h⟩ := zg_of h
        refine z_idiv C0 dX12_worst_159 g46 ?_
        obtain ⟨x47, e_x47, h⟩ := zl_of h
        refine z_nm e_x47 ?_
        refine z_istore_n (lo1 := [(3, .int x47), (4, .int x39), (0, .ref (zb g + a0)), (1, .int v1), (2, .int v2), (5, .int y21)]) C0 dX12_worst_160 rfl (by decide) rfl ?_
        obtain ⟨x48, e_x48, h⟩ := zl_of h
        refine z_iinc (lo1 := [(5, .int x48), (3, .int x47), (4, .int x39), (0, .ref (zb g + a0)), (1, .int v1), (2, .int v2)]) C0 dX12_worst_161 5 rfl (by decide) e_x48.symm (by decide) rfl ?_
        refine z_goto C0 56 dX12_worst_164 (by decide) ?_
        refine z_sub (lo1 := [(0, .ref (zb g + a0)), (1, .int v1), (2, .int v2), (3, .int x47), (4, .int x39), (5, .int x48)]) [3, 4, 5, 1, 2, 0] rfl ?_
        exact ih _ _ _ _ _ _ h kx
      · have h := e_x39.symm
        refine z_icmp_le C0 132 dX12_worst_124 (by decide) (fun c37 => ?_) (fun c37 => ?_)
        · have h := zif_t c37 h
          refine z_iload C0 dX12_worst_132 4 rfl ?_
          refine z_sub (lo1 := [(0, .ref (zb g + a0)), (1, .int v1), (2, .int v2), (3, .int y19), (5, .int y21)]) [0, 1, 2, 3, 5] rfl ?_
          obtain rfl := h
          exact k_J38
        · have h := zif_f c37 h
          refine z_iload C0 dX12_worst_127 6 rfl ?_
          refine z_goto C0 134 dX12_worst_129 (by decide) ?_
          refine z_sub (lo1 := [(0, .ref (zb g + a0)), (1, .int v1), (2, .int v2), (3, .int y19), (5, .int y21)]) [0, 1, 2, 3, 5] rfl ?_
          obtain rfl := h
          exact k_J38
set_option maxHeartbeats 4000000 in
set_option maxRecDepth 100000 in
theorem r_X12_worst {l : Launch} {g : zL} (a0 : Nat) (v1 : Int32) (v2 : Int32) (μ : zM) (hT0 : zT zNN zσ1 a0 12) {rv : Int32} {μr : zM} (h : f_X12_worst a0 v1 v2 μ = some (rv, μr)) : zMet l g yX12_worst cX12_worst 8 (some (.int)) 1 0 0 zNN zNN zσ1 zσ1 [.ref (zb g + a0), .int v1, .int v2] μ (some (.int rv)) μr := by
  refine zMet.of (by decide +kernel) (Nat.le_of_ble_eq_true rfl) ?_
  intro p e s m args below meth c C0
  refine z_loc (lo1 := [(0, .ref (zb g + a0)), (1, .int v1), (2, .int v2)]) rfl ?_
  unfold f_X12_worst at h
  refine z_iconst (v := (1 : Int32)) C0 dX12_worst_0 (by decide) ?_
  refine z_istore_n (lo1 := [(3, .int (1 : Int32)), (0, .ref (zb g + a0)), (1, .int v1), (2, .int v2)]) C0 dX12_worst_1 rfl (by decide) rfl ?_
  refine z_iconst (v := (1 : Int32)) C0 dX12_worst_2 (by decide) ?_
  refine z_istore (lo1 := [(4, .int (1 : Int32)), (3, .int (1 : Int32)), (0, .ref (zb g + a0)), (1, .int v1), (2, .int v2)]) C0 dX12_worst_3 (by decide) rfl ?_
  refine z_sub (lo1 := [(0, .ref (zb g + a0)), (1, .int v1), (2, .int v2), (3, .int (1 : Int32)), (4, .int (1 : Int32))]) [2, 3, 4, 1, 0] rfl ?_
  obtain ⟨x9, e_x9, h⟩ := zbd_of h
  refine r_X12_worst_L5 C0 a0 v1 v2 μ hT0 zFU (1 : Int32) (1 : Int32) x9 e_x9 ?_
  refine z_iconst (v := (0 : Int32)) C0 dX12_worst_26 (by decide) ?_
  refine z_istore (lo1 := [(4, .int (0 : Int32)), (0, .ref (zb g + a0)), (1, .int v1), (2, .int v2), (3, .int x9)]) C0 dX12_worst_27 (by decide) rfl ?_
  refine z_sub (lo1 := [(0, .ref (zb g + a0)), (1, .int v1), (2, .int v2), (3, .int x9), (4, .int (0 : Int32))]) [1, 2, 3, 4, 0] rfl ?_
  obtain ⟨μ17, e_μ17, h⟩ := zbd_of h
  refine r_X12_worst_L29 C0 a0 v1 v2 x9 hT0 zFU (0 : Int32) μ μ17 e_μ17 ?_
  refine z_iconst (v := (0 : Int32)) C0 dX12_worst_50 (by decide) ?_
  refine z_istore (lo1 := [(4, .int (0 : Int32)), (0, .ref (zb g + a0)), (1, .int v1), (2, .int v2), (3, .int x9)]) C0 dX12_worst_51 (by decide) rfl ?_
  refine z_iconst (v := (0 : Int32)) C0 dX12_worst_53 (by decide) ?_
  refine z_istore (lo1 := [(5, .int (0 : Int32)), (4, .int (0 : Int32)), (0, .ref (zb g + a0)), (1, .int v1), (2, .int v2), (3, .int x9)]) C0 dX12_worst_54 (by decide) rfl ?_
  refine z_sub (lo1 := [(0, .ref (zb g + a0)), (1, .int v1), (2, .int v2), (3, .int x9), (4, .int (0 : Int32)), (5, .int (0 : Int32))]) [2, 3, 4, 5, 1, 0] rfl ?_
  obtain ⟨x49, μ50, e_x49, h⟩ := zbd2_of h
  refine r_X12_worst_L56 C0 a0 v1 v2 hT0 zFU x9 (0 : Int32) (0 : Int32) μ17 x49 μ50 e_x49 ?_
  refine z_iload C0 dX12_worst_167 0 rfl ?_
  have h := Option.some.inj h
  obtain ⟨rfl, rfl⟩ := Prod.mk.inj h
  exact z_iret C0 rfl dX12_worst_169
def f_X12_bail_L46 (a0 : Nat) (v2 : Int32) (v3 : Int32) (μ13 : zM) : Nat → Int32 → Int32 → Option (Int32)
  | 0, _, _ => none
  | n + 1, y11, y12 =>
    if v2 ≤ y12 then
      some y11
    else
      zbd (f_X12_of a0 (15 : Int32) μ13) fun r15 =>
      zl (y11 * r15) fun x16 =>
      zl (y12 + (1 : Int32)) fun x17 =>
      f_X12_bail_L46 a0 v2 v3 μ13 n x16 x17
def f_X12_bail_L83 (a0 : Nat) (v2 : Int32) (v3 : Int32) (x18 : Int32) : Nat → Int32 → Int32 → Int32 → zM → Option (Int32 × Int32 × zM)
  | 0, _, _, _, _ => none
  | n + 1, y22, y23, y24, μ25 =>
    if x18 ≤ y24 then
      some (y22, y23, μ25)
    else
      zbd2 (f_X12_worst a0 v2 y24 μ25) fun r27 μ28 =>
      zl (if y23 ≤ r27 then
          y22
        else
          y24) fun x31 =>
      zl (if y23 ≤ r27 then
          y23
        else
          r27) fun x34 =>
      zl (y24 + (1 : Int32)) fun x35 =>
      f_X12_bail_L83 a0 v2 v3 x18 n x31 x34 x35 μ28
def f_X12_bail_L150 (a0 : Nat) (v3 : Int32) (μ44 : zM) : Nat → Int32 → Int32 → Option (Int32)
  | 0, _, _ => none
  | n + 1, y42, y43 =>
    if y43 ≤ v3 then
      some y42
    else
      zbd (f_X12_of a0 (15 : Int32) μ44) fun r46 =>
      zg (znz r46) <|
      zl (y42 / r46) fun x48 =>
      zl (y43 + (-1 : Int32)) fun x49 =>
      f_X12_bail_L150 a0 v3 μ44 n x48 x49
def f_X12_bail (a0 : Nat) (v1 : Int32) (v2 : Int32) (v3 : Int32) (μ : zM) : Option (Int32 × zM) :=
  zbd2 (f_X12_isLake a0 v1 μ) fun r1 μ2 =>
  zbd (if r1 = 0 then
      some false
    else
      zbd (f_X12_of a0 (15 : Int32) μ2) fun r5 =>
      if r5 = 0 then
        some false
      else
        if (f_X12_isIn v2 (1 : Int32) (8 : Int32)) = 0 then
          some false
        else
          if ¬ (f_X12_isIn v3 (-1 : Int32) (v2 - (1 : Int32))) = 0 then
            some true
          else
            some false) fun b9 =>
  if b9 = true then
    zbd (f_X12_bail_L46 a0 v2 v3 μ2 zFU (1 : Int32) (0 : Int32)) fun x18 =>
    zbd2 (f_X12_worst a0 v2 (0 : Int32) μ2) fun r19 μ20 =>
    zbd3 (f_X12_bail_L83 a0 v2 v3 x18 zFU (0 : Int32) r19 (1 : Int32) μ20) fun x36 x37 μ38 =>
    if ¬ v3 = (-1 : Int32) then
      zl (v2 - (1 : Int32)) fun x40 =>
      zbd (f_X12_bail_L150 a0 v3 μ38 zFU x36 x40) fun x50 =>
      zbd (f_X12_of a0 (15 : Int32) μ38) fun r51 =>
      zg (znz r51) <|
      some ((x50 % r51), μ38)
    else
      some (x37, μ38)
  else
    some ((-1 : Int32), μ2)
set_option maxHeartbeats 4000000 in
set_option maxRecDepth 100000 in
theorem r_X12_bail_L46 {l : Launch} {g : zL} {p : Program} {e : Env} {s : State} {m : MethodId} {args : Array Value} {below : List Frame} {meth : Method} {c : Code} {Q : State → Prop} (C0 : zC p s m args meth c g cX12_bail yX12_bail 9 (some (.int))) (a0 : Nat) (v2 : Int32) (v3 : Int32) (μ13 : zM) (hU10 : zT zNN zσ1 a0 12) : ∀ (n : Nat) (y11 : Int32) (y12 : Int32) (x18 : Int32), f_X12_bail_L46 a0 v2 v3 μ13 n y11 y12 = some x18 → Z p l e (zrm 3 0 0) s m args below meth c g Q 9 zNN 0 0 zσ1 μ13 69 [(0, .ref (zb g + a0)), (2, .int v2), (3, .int v3), (4, .int x18)] [] → Z p l e (zrm 3 0 0) s m args below meth c g Q 9 zNN 0 0 zσ1 μ13 46 [(0, .ref (zb g + a0)), (2, .int v2), (3, .int v3), (4, .int y11), (5, .int y12)] [] := by
  intro n
  induction n with
  | zero =>
    intro y11 y12 x18 h kx
    rw [f_X12_bail_L46] at h
    cases h
  | succ n ih =>
    intro y11 y12 x18 h kx
    rw [f_X12_bail_L46] at h
    refine z_iload C0 dX12_bail_46 4 rfl ?_
    refine z_iload_n C0 dX12_bail_48 rfl 1 rfl ?_
    refine z_icmp_ge C0 69 dX12_bail_49 (by decide) (fun c14 => ?_) (fun c14 => ?_)
    · have h := zif_t c14 h
      refine z_sub (lo1 := [(0, .ref (zb g + a0)), (2, .int v2), (3, .int v3), (4, .int y11)]) [0, 1, 2, 3] rfl ?_
      obtain rfl := (Option.some.inj h)
      exact kx
    · have h := zif_f c14 h
      refine z_iload C0 dX12_bail_52 3 rfl ?_
      refine z_aload_n C0 dX12_bail_54 rfl 0 rfl ?_
      refine z_bipush (v := (15 : Int32)) C0 dX12_bail_55 (by decide) ?_
      obtain ⟨r15, e_r15, h⟩ := zbd_of h
      refine z_callV (As := [.int (15 : Int32)]) (rest := [.int y11]) C0 rfl kc_X12_of km_RX12_180 (r_X12_of (l := l) (g := g) a0 (15 : Int32) μ13 hU10 e_r15) hU10.1 hU10.2.2.1 rfl (by decide) rfl (Nat.le_of_ble_eq_true rfl) (Nat.le_of_ble_eq_true rfl) (Nat.le_of_ble_eq_true rfl) (Nat.le_of_ble_eq_true rfl) (Nat.le_refl _) rfl rfl dX12_bail_57 ?_
      refine z_imul C0 dX12_bail_60 ?_
      obtain ⟨x16, e_x16, h⟩ := zl_of h
      refine z_nm e_x16 ?_
      refine z_istore (lo1 := [(4, .int x16), (0, .ref (zb g + a0)), (2, .int v2), (3, .int v3), (5, .int y12)]) C0 dX12_bail_61 (by decide) rfl ?_
      obtain ⟨x17, e_x17, h⟩ := zl_of h
      refine z_iinc (lo1 := [(5, .int x17), (4, .int x16), (0, .ref (zb g + a0)), (2, .int v2), (3, .int v3)]) C0 dX12_bail_63 4 rfl (by decide) e_x17.symm (by decide) rfl ?_
      refine z_goto C0 46 dX12_bail_66 (by decide) ?_
      refine z_sub (lo1 := [(0, .ref (zb g + a0)), (2, .int v2), (3, .int v3), (4, .int x16), (5, .int x17)]) [2, 3, 4, 1, 0] rfl ?_
      exact ih _ _ _ h kx
set_option maxHeartbeats 4000000 in
set_option maxRecDepth 100000 in
theorem r_X12_bail_L83 {l : Launch} {g : zL} {p : Program} {e : Env} {s : State} {m : MethodId} {args : Array Value} {below : List Frame} {meth : Method} {c : Code} {Q : State → Prop} (C0 : zC p s m args meth c g cX12_bail yX12_bail 9 (some (.int))) (a0 : Nat) (v2 : Int32) (v3 : Int32) (x18 : Int32) (hU21 : zT zNN zσ1 a0 12) : ∀ (n : Nat) (y22 : Int32) (y23 : Int32) (y24 : Int32) (μ25 : zM) (x36 : Int32) (x37 : Int32) (μ38 : zM), f_X12_bail_L83 a0 v2 v3 x18 n y22 y23 y24 μ25 = some (x36, x37, μ38) → Z p l e (zrm 3 0 0) s m args below meth c g Q 9 zNN 0 0 zσ1 μ38 137 [(0, .ref (zb g + a0)), (2, .int v2), (3, .int v3), (5, .int x36), (6, .int x37)] [] → Z p l e (zrm 3 0 0) s m args below meth c g Q 9 zNN 0 0 zσ1 μ25 83 [(0, .ref (zb g + a0)), (2, .int v2), (3, .int v3), (4, .int x18), (5, .int y22), (6, .int y23), (7, .int y24)] [] := by
  intro n
  induction n with
  | zero =>
    intro y22 y23 y24 μ25 x36 x37 μ38 h kx
    rw [f_X12_bail_L83] at h
    cases h
  | succ n ih =>
    intro y22 y23 y24 μ25 x36 x37 μ38 h kx
    rw [f_X12_bail_L83] at h
    refine z_iload C0 dX12_bail_83 6 rfl ?_
    refine z_iload C0 dX12_bail_85 3 rfl ?_
    refine z_icmp_ge C0 137 dX12_bail_87 (by decide) (fun c26 => ?_) (fun c26 => ?_)
    · have h := zif_t c26 h
      refine z_sub (lo1 := [(0, .ref (zb g + a0)), (2, .int v2), (3, .int v3), (5, .int y22), (6, .int y23)]) [0, 1, 2, 4, 5] rfl ?_
      obtain ⟨rfl, h0_⟩ := Prod.mk.inj (Option.some.inj h)
      obtain ⟨rfl, rfl⟩ := Prod.mk.inj h0_
      exact kx
    · have h := zif_f c26 h
      refine z_aload_n C0 dX12_bail_90 rfl 0 rfl ?_
      refine z_iload_n C0 dX12_bail_91 rfl 1 rfl ?_
      refine z_iload C0 dX12_bail_92 6 rfl ?_
      obtain ⟨r27, μ28, e_r27, h⟩ := zbd2_of h
      refine z_callV (As := [.int v2, .int y24]) (rest := []) C0 rfl kc_X12_worst km_RX12_411 (r_X12_worst (l := l) (g := g) a0 v2 y24 μ25 hU21 e_r27) hU21.1 hU21.2.2.1 rfl (by decide) rfl (Nat.le_of_ble_eq_true rfl) (Nat.le_of_ble_eq_true rfl) (Nat.le_of_ble_eq_true rfl) (Nat.le_of_ble_eq_true rfl) (Nat.le_refl _) rfl rfl dX12_bail_94 ?_
      refine z_istore (lo1 := [(8, .int r27), (0, .ref (zb g + a0)), (2, .int v2), (3, .int v3), (4, .int x18), (5, .int y22), (6, .int y23), (7, .int y24)]) C0 dX12_bail_97 (by decide) rfl ?_
      refine z_iload C0 dX12_bail_99 0 rfl ?_
      refine z_iload C0 dX12_bail_101 6 rfl ?_
      obtain ⟨x31, e_x31, h⟩ := zl_of h
      refine z_join μ28 113 [(0, .ref (zb g + a0)), (2, .int v2), (3, .int v3), (4, .int x18), (6, .int y23), (7, .int y24), (8, .int r27)] [.int x31] ?_ (fun k_J30 => ?_)
      · refine z_istore (lo1 := [(5, .int x31), (0, .ref (zb g + a0)), (2, .int v2), (3, .int v3), (4, .int x18), (6, .int y23), (7, .int y24), (8, .int r27)]) C0 dX12_bail_113 (by decide) rfl ?_
        refine z_iload C0 dX12_bail_115 7 rfl ?_
        refine z_iload C0 dX12_bail_117 5 rfl ?_
        obtain ⟨x34, e_x34, h⟩ := zl_of h
        refine z_join μ28 129 [(0, .ref (zb g + a0)), (2, .int v2), (3, .int v3), (4, .int x18), (5, .int x31), (7, .int y24)] [.int x34] ?_ (fun k_J33 => ?_)
        · refine z_istore (lo1 := [(6, .int x34), (0, .ref (zb g + a0)), (2, .int v2), (3, .int v3), (4, .int x18), (5, .int x31), (7, .int y24)]) C0 dX12_bail_129 (by decide) rfl ?_
          obtain ⟨x35, e_x35, h⟩ := zl_of h
          refine z_iinc (lo1 := [(7, .int x35), (6, .int x34), (0, .ref (zb g + a0)), (2, .int v2), (3, .int v3), (4, .int x18), (5, .int x31)]) C0 dX12_bail_131 6 rfl (by decide) e_x35.symm (by decide) rfl ?_
          refine z_goto C0 83 dX12_bail_134 (by decide) ?_
          refine z_sub (lo1 := [(0, .ref (zb g + a0)), (2, .int v2), (3, .int v3), (4, .int x18), (5, .int x31), (6, .int x34), (7, .int x35)]) [2, 3, 4, 5, 6, 1, 0] rfl ?_
          exact ih _ _ _ _ _ _ _ h kx
        · have h := e_x34.symm
          refine z_icmp_ge C0 127 dX12_bail_119 (by decide) (fun c32 => ?_) (fun c32 => ?_)
          · have h := zif_t c32 h
            refine z_iload C0 dX12_bail_127 5 rfl ?_
            refine z_sub (lo1 := [(0, .ref (zb g + a0)), (2, .int v2), (3, .int v3), (4, .int x18), (5, .int x31), (7, .int y24)]) [1, 2, 3, 4, 0, 6] rfl ?_
            obtain rfl := h
            exact k_J33
          · have h := zif_f c32 h
            refine z_iload C0 dX12_bail_122 7 rfl ?_
            refine z_goto C0 129 dX12_bail_124 (by decide) ?_
            refine z_sub (lo1 := [(0, .ref (zb g + a0)), (2, .int v2), (3, .int v3), (4, .int x18), (5, .int x31), (7, .int y24)]) [1, 2, 3, 4, 0, 6] rfl ?_
            obtain rfl := h
            exact k_J33
      · have h := e_x31.symm
        refine z_icmp_ge C0 111 dX12_bail_103 (by decide) (fun c29 => ?_) (fun c29 => ?_)
        · have h := zif_t c29 h
          refine z_iload C0 dX12_bail_111 5 rfl ?_
          refine z_sub (lo1 := [(0, .ref (zb g + a0)), (2, .int v2), (3, .int v3), (4, .int x18), (6, .int y23), (7, .int y24), (8, .int r27)]) [1, 2, 3, 4, 6, 7, 0] rfl ?_
          obtain rfl := h
          exact k_J30
        · have h := zif_f c29 h
          refine z_iload C0 dX12_bail_106 7 rfl ?_
          refine z_goto C0 113 dX12_bail_108 (by decide) ?_
          refine z_sub (lo1 := [(0, .ref (zb g + a0)), (2, .int v2), (3, .int v3), (4, .int x18), (6, .int y23), (7, .int y24), (8, .int r27)]) [1, 2, 3, 4, 6, 7, 0] rfl ?_
          obtain rfl := h
          exact k_J30
set_option maxHeartbeats 4000000 in
set_option maxRecDepth 100000 in
theorem r_X12_bail_L150 {l : Launch} {g : zL} {p : Program} {e : Env} {s : State} {m : MethodId} {args : Array Value} {below : List Frame} {meth : Method} {c : Code} {Q : State → Prop} (C0 : zC p s m args meth c g cX12_bail yX12_bail 9 (some (.int))) (a0 : Nat) (v3 : Int32) (μ44 : zM) (hU41 : zT zNN zσ1 a0 12) : ∀ (n : Nat) (y42 : Int32) (y43 : Int32) (x50 : Int32), f_X12_bail_L150 a0 v3 μ44 n y42 y43 = some x50 → Z p l e (zrm 3 0 0) s m args below meth c g Q 9 zNN 0 0 zσ1 μ44 173 [(0, .ref (zb g + a0)), (5, .int x50)] [] → Z p l e (zrm 3 0 0) s m args below meth c g Q 9 zNN 0 0 zσ1 μ44 150 [(0, .ref (zb g + a0)), (3, .int v3), (5, .int y42), (7, .int y43)] [] := by
  intro n
  induction n with
  | zero =>
    intro y42 y43 x50 h kx
    rw [f_X12_bail_L150] at h
    cases h
  | succ n ih =>
    intro y42 y43 x50 h kx
    rw [f_X12_bail_L150] at h
    refine z_iload C0 dX12_bail_150 3 rfl ?_
    refine z_iload_n C0 dX12_bail_152 rfl 1 rfl ?_
    refine z_icmp_le C0 173 dX12_bail_153 (by decide) (fun c45 => ?_) (fun c45 => ?_)
    · have h := zif_t c45 h
      refine z_sub (lo1 := [(0, .ref (zb g + a0)), (5, .int y42)]) [0, 2] rfl ?_
      obtain rfl := (Option.some.inj h)
      exact kx
    · have h := zif_f c45 h
      refine z_iload C0 dX12_bail_156 2 rfl ?_
      refine z_aload_n C0 dX12_bail_158 rfl 0 rfl ?_
      refine z_bipush (v := (15 : Int32)) C0 dX12_bail_159 (by decide) ?_
      obtain ⟨r46, e_r46, h⟩ := zbd_of h
      refine z_callV (As := [.int (15 : Int32)]) (rest := [.int y42]) C0 rfl kc_X12_of km_RX12_180 (r_X12_of (l := l) (g := g) a0 (15 : Int32) μ44 hU41 e_r46) hU41.1 hU41.2.2.1 rfl (by decide) rfl (Nat.le_of_ble_eq_true rfl) (Nat.le_of_ble_eq_true rfl) (Nat.le_of_ble_eq_true rfl) (Nat.le_of_ble_eq_true rfl) (Nat.le_refl _) rfl rfl dX12_bail_161 ?_
      obtain ⟨g47, h⟩ := zg_of h
      refine z_idiv C0 dX12_bail_164 g47 ?_
      obtain ⟨x48, e_x48, h⟩ := zl_of h
      refine z_nm e_x48 ?_
      refine z_istore (lo1 := [(5, .int x48), (0, .ref (zb g + a0)), (3, .int v3), (7, .int y43)]) C0 dX12_bail_165 (by decide) rfl ?_
      obtain ⟨x49, e_x49, h⟩ := zl_of h
      refine z_iinc (lo1 := [(7, .int x49), (5, .int x48), (0, .ref (zb g + a0)), (3, .int v3)]) C0 dX12_bail_167 3 rfl (by decide) e_x49.symm (by decide) rfl ?_
      refine z_goto C0 150 dX12_bail_170 (by decide) ?_
      refine z_sub (lo1 := [(0, .ref (zb g + a0)), (3, .int v3), (5, .int x48), (7, .int x49)]) [2, 3, 1, 0] rfl ?_
      exact ih _ _ _ h kx
set_option maxHeartbeats 4000000 in
set_option maxRecDepth 100000 in
theorem r_X12_bail {l : Launch} {g : zL} (a0 : Nat) (v1 : Int32) (v2 : Int32) (v3 : Int32) (μ : zM) (hT0 : zT zNN zσ1 a0 12) {rv : Int32} {μr : zM} (h : f_X12_bail a0 v1 v2 v3 μ = some (rv, μr)) : zMet l g yX12_bail cX12_bail 9 (some (.int)) 3 0 0 zNN zNN zσ1 zσ1 [.ref (zb g + a0), .int v1, .int v2, .int v3] μ (some (.int rv)) μr := by
  refine zMet.of (by decide +kernel) (Nat.le_of_ble_eq_true rfl) ?_
  intro p e s m args below meth c C0
  refine z_loc (lo1 := [(0, .ref (zb g + a0)), (1, .int v1), (2, .int v2), (3, .int v3)]) rfl ?_
  unfold f_X12_bail at h
  refine z_aload_n C0 dX12_bail_0 rfl 0 rfl ?_
  refine z_iload_n C0 dX12_bail_1 rfl 1 rfl ?_
  obtain ⟨r1, μ2, e_r1, h⟩ := zbd2_of h
  refine z_callV (As := [.int v1]) (rest := []) C0 rfl kc_X12_isLake km_RX12_186 (r_X12_isLake (l := l) (g := g) a0 v1 μ hT0 e_r1) hT0.1 hT0.2.2.1 rfl (by decide) rfl (Nat.le_of_ble_eq_true rfl) (Nat.le_of_ble_eq_true rfl) (Nat.le_of_ble_eq_true rfl) (Nat.le_of_ble_eq_true rfl) (Nat.le_refl _) rfl rfl dX12_bail_2 ?_
  obtain ⟨b9, e_b9, h⟩ := zbd_of h
  refine z_joinb b9 μ2 40 38 [(0, .ref (zb g + a0)), (1, .int v1), (2, .int v2), (3, .int v3)] [] (fun z55 => ?_) (fun z55 => ?_) (fun k53 k54 => ?_)
  · have h := zif_t z55 h
    refine z_iconst (v := (1 : Int32)) C0 dX12_bail_40 (by decide) ?_
    refine z_istore (lo1 := [(4, .int (1 : Int32)), (0, .ref (zb g + a0)), (1, .int v1), (2, .int v2), (3, .int v3)]) C0 dX12_bail_41 (by decide) rfl ?_
    refine z_iconst (v := (0 : Int32)) C0 dX12_bail_43 (by decide) ?_
    refine z_istore (lo1 := [(5, .int (0 : Int32)), (4, .int (1 : Int32)), (0, .ref (zb g + a0)), (1, .int v1), (2, .int v2), (3, .int v3)]) C0 dX12_bail_44 (by decide) rfl ?_
    refine z_sub (lo1 := [(0, .ref (zb g + a0)), (2, .int v2), (3, .int v3), (4, .int (1 : Int32)), (5, .int (0 : Int32))]) [2, 4, 5, 1, 0] rfl ?_
    obtain ⟨x18, e_x18, h⟩ := zbd_of h
    refine r_X12_bail_L46 C0 a0 v2 v3 μ2 hT0 zFU (1 : Int32) (0 : Int32) x18 e_x18 ?_
    refine z_iconst (v := (0 : Int32)) C0 dX12_bail_69 (by decide) ?_
    refine z_istore (lo1 := [(5, .int (0 : Int32)), (0, .ref (zb g + a0)), (2, .int v2), (3, .int v3), (4, .int x18)]) C0 dX12_bail_70 (by decide) rfl ?_
    refine z_aload_n C0 dX12_bail_72 rfl 1 rfl ?_
    refine z_iload_n C0 dX12_bail_73 rfl 2 rfl ?_
    refine z_iconst (v := (0 : Int32)) C0 dX12_bail_74 (by decide) ?_
    obtain ⟨r19, μ20, e_r19, h⟩ := zbd2_of h
    refine z_callV (As := [.int v2, .int (0 : Int32)]) (rest := []) C0 rfl kc_X12_worst km_RX12_411 (r_X12_worst (l := l) (g := g) a0 v2 (0 : Int32) μ2 hT0 e_r19) hT0.1 hT0.2.2.1 rfl (by decide) rfl (Nat.le_of_ble_eq_true rfl) (Nat.le_of_ble_eq_true rfl) (Nat.le_of_ble_eq_true rfl) (Nat.le_of_ble_eq_true rfl) (Nat.le_refl _) rfl rfl dX12_bail_75 ?_
    refine z_istore (lo1 := [(6, .int r19), (5, .int (0 : Int32)), (0, .ref (zb g + a0)), (2, .int v2), (3, .int v3), (4, .int x18)]) C0 dX12_bail_78 (by decide) rfl ?_
    refine z_iconst (v := (1 : Int32)) C0 dX12_bail_80 (by decide) ?_
    refine z_istore (lo1 := [(7, .int (1 : Int32)), (6, .int r19), (5, .int (0 : Int32)), (0, .ref (zb g + a0)), (2, .int v2), (3, .int v3), (4, .int x18)]) C0 dX12_bail_81 (by decide) rfl ?_
    refine z_sub (lo1 := [(0, .ref (zb g + a0)), (2, .int v2), (3, .int v3), (4, .int x18), (5, .int (0 : Int32)), (6, .int r19), (7, .int (1 : Int32))]) [3, 4, 5, 6, 2, 1, 0] rfl ?_
    obtain ⟨x36, x37, μ38, e_x36, h⟩ := zbd3_of h
    refine r_X12_bail_L83 C0 a0 v2 v3 x18 hT0 zFU (0 : Int32) r19 (1 : Int32) μ20 x36 x37 μ38 e_x36 ?_
    refine z_iload_n C0 dX12_bail_137 rfl 2 rfl ?_
    refine z_iconst (v := (-1 : Int32)) C0 dX12_bail_138 (by decide) ?_
    refine z_icmp_ne C0 145 dX12_bail_139 (by decide) (fun c39 => ?_) (fun c39 => ?_)
    · have h := zif_t c39 h
      refine z_iload_n C0 dX12_bail_145 rfl 1 rfl ?_
      refine z_iconst (v := (1 : Int32)) C0 dX12_bail_146 (by decide) ?_
      refine z_isub C0 dX12_bail_147 ?_
      obtain ⟨x40, e_x40, h⟩ := zl_of h
      refine z_nm e_x40 ?_
      refine z_istore (lo1 := [(7, .int x40), (0, .ref (zb g + a0)), (2, .int v2), (3, .int v3), (5, .int x36), (6, .int x37)]) C0 dX12_bail_148 (by decide) rfl ?_
      refine z_sub (lo1 := [(0, .ref (zb g + a0)), (3, .int v3), (5, .int x36), (7, .int x40)]) [1, 3, 4, 0] rfl ?_
      obtain ⟨x50, e_x50, h⟩ := zbd_of h
      refine r_X12_bail_L150 C0 a0 v3 μ38 hT0 zFU x36 x40 x50 e_x50 ?_
      refine z_iload C0 dX12_bail_173 1 rfl ?_
      refine z_aload_n C0 dX12_bail_175 rfl 0 rfl ?_
      refine z_bipush (v := (15 : Int32)) C0 dX12_bail_176 (by decide) ?_
      obtain ⟨r51, e_r51, h⟩ := zbd_of h
      refine z_callV (As := [.int (15 : Int32)]) (rest := [.int x50]) C0 rfl kc_X12_of km_RX12_180 (r_X12_of (l := l) (g := g) a0 (15 : Int32) μ38 hT0 e_r51) hT0.1 hT0.2.2.1 rfl (by decide) rfl (Nat.le_of_ble_eq_true rfl) (Nat.le_of_ble_eq_true rfl) (Nat.le_of_ble_eq_true rfl) (Nat.le_of_ble_eq_true rfl) (Nat.le_refl _) rfl rfl dX12_bail_178 ?_
      obtain ⟨g52, h⟩ := zg_of h
      refine z_irem C0 dX12_bail_181 g52 ?_
      have h := Option.some.inj h
      obtain ⟨rfl, rfl⟩ := Prod.mk.inj h
      exact z_iret C0 rfl dX12_bail_182
    · have h := zif_f (fun q => q c39) h
      refine z_iload C0 dX12_bail_142 4 rfl ?_
      have h := Option.some.inj h
      obtain ⟨rfl, rfl⟩ := Prod.mk.inj h
      exact z_iret C0 rfl dX12_bail_144
  · have h := zif_f (fun q => Bool.noConfusion (z55.symm.trans q)) h
    refine z_iconst (v := (-1 : Int32)) C0 dX12_bail_38 (by decide) ?_
    have h := Option.some.inj h
    obtain ⟨rfl, rfl⟩ := Prod.mk.inj h
    exact z_iret C0 rfl dX12_bail_39
  · have h := e_b9
    refine z_if_eq C0 38 dX12_bail_5 (by decide) (fun c3 => ?_) (fun c3 => ?_)
    · have h := zif_t c3 h
      exact k54 (Option.some.inj h).symm
    · have h := zif_f c3 h
      refine z_aload_n C0 dX12_bail_8 rfl 0 rfl ?_
      refine z_bipush (v := (15 : Int32)) C0 dX12_bail_9 (by decide) ?_
      obtain ⟨r5, e_r5, h⟩ := zbd_of h
      refine z_callV (As := [.int (15 : Int32)]) (rest := []) C0 rfl kc_X12_of km_RX12_180 (r_X12_of (l := l) (g := g) a0 (15 : Int32) μ2 hT0 e_r5) hT0.1 hT0.2.2.1 rfl (by decide) rfl (Nat.le_of_ble_eq_true rfl) (Nat.le_of_ble_eq_true rfl) (Nat.le_of_ble_eq_true rfl) (Nat.le_of_ble_eq_true rfl) (Nat.le_refl _) rfl rfl dX12_bail_11 ?_
      refine z_if_eq C0 38 dX12_bail_14 (by decide) (fun c6 => ?_) (fun c6 => ?_)
      · have h := zif_t c6 h
        exact k54 (Option.some.inj h).symm
      · have h := zif_f c6 h
        refine z_iload_n C0 dX12_bail_17 rfl 2 rfl ?_
        refine z_iconst (v := (1 : Int32)) C0 dX12_bail_18 (by decide) ?_
        refine z_bipush (v := (8 : Int32)) C0 dX12_bail_19 (by decide) ?_
        refine z_callS (As := [.int v2, .int (1 : Int32), .int (8 : Int32)]) (rest := []) C0 rfl kc_X12_isIn km_RX12_109 (r_X12_isIn (l := l) (g := g) (μ := μ2) v2 (1 : Int32) (8 : Int32) rfl) rfl (Nat.le_of_ble_eq_true rfl) (Nat.le_of_ble_eq_true rfl) (Nat.le_of_ble_eq_true rfl) (Nat.le_of_ble_eq_true rfl) (Nat.le_refl _) rfl rfl dX12_bail_21 ?_
        refine z_if_eq C0 38 dX12_bail_24 (by decide) (fun c7 => ?_) (fun c7 => ?_)
        · have h := zif_t c7 h
          exact k54 (Option.some.inj h).symm
        · have h := zif_f c7 h
          refine z_iload_n C0 dX12_bail_27 rfl 3 rfl ?_
          refine z_iconst (v := (-1 : Int32)) C0 dX12_bail_28 (by decide) ?_
          refine z_iload_n C0 dX12_bail_29 rfl 2 rfl ?_
          refine z_iconst (v := (1 : Int32)) C0 dX12_bail_30 (by decide) ?_
          refine z_isub C0 dX12_bail_31 ?_
          refine z_callS (As := [.int v3, .int (-1 : Int32), .int (v2 - (1 : Int32))]) (rest := []) C0 rfl kc_X12_isIn km_RX12_109 (r_X12_isIn (l := l) (g := g) (μ := μ2) v3 (-1 : Int32) (v2 - (1 : Int32)) rfl) rfl (Nat.le_of_ble_eq_true rfl) (Nat.le_of_ble_eq_true rfl) (Nat.le_of_ble_eq_true rfl) (Nat.le_of_ble_eq_true rfl) (Nat.le_refl _) rfl rfl dX12_bail_32 ?_
          refine z_if_ne C0 40 dX12_bail_35 (by decide) (fun c8 => ?_) (fun c8 => ?_)
          · have h := zif_t c8 h
            exact k53 (Option.some.inj h).symm
          · have h := zif_f (fun q => q c8) h
            exact k54 (Option.some.inj h).symm
def f_X12_sidesAt (a0 : Nat) (v1 : Int32) (v2 : Int32) (μ : zM) : Option (Int32) :=
  zl (if ¬ v2 = 0 then
      (0 : Int32)
    else
      (1 : Int32)) fun x3 =>
  zbd (f_X12_of a0 (2 : Int32) μ) fun r4 =>
  zbd (f_X12_of a0 (0 : Int32) μ) fun r5 =>
  zl (if ¬ (v1 + r4) = r5 then
      (0 : Int32)
    else
      (2 : Int32)) fun x8 =>
  zbd (f_X12_of a0 (3 : Int32) μ) fun r9 =>
  zbd (f_X12_of a0 (1 : Int32) μ) fun r10 =>
  zl (if ¬ (v2 + r9) = r10 then
      (0 : Int32)
    else
      (4 : Int32)) fun x13 =>
  zl (if ¬ v1 = 0 then
      (0 : Int32)
    else
      (8 : Int32)) fun x16 =>
  some (((x3 + x8) + x13) + x16)
set_option maxHeartbeats 4000000 in
set_option maxRecDepth 100000 in
theorem r_X12_sidesAt {l : Launch} {g : zL} (a0 : Nat) (v1 : Int32) (v2 : Int32) (μ : zM) (hT0 : zT zNN zσ1 a0 12) {rv : Int32} (h : f_X12_sidesAt a0 v1 v2 μ = some rv) : zMet l g yX12_sidesAt cX12_sidesAt 3 (some (.int)) 1 0 0 zNN zNN zσ1 zσ1 [.ref (zb g + a0), .int v1, .int v2] μ (some (.int rv)) μ := by
  refine zMet.of (by decide +kernel) (Nat.le_of_ble_eq_true rfl) ?_
  intro p e s m args below meth c C0
  refine z_loc (lo1 := [(0, .ref (zb g + a0)), (1, .int v1), (2, .int v2)]) rfl ?_
  unfold f_X12_sidesAt at h
  refine z_iload_n C0 dX12_sidesAt_0 rfl 2 rfl ?_
  obtain ⟨x3, e_x3, h⟩ := zl_of h
  refine z_join μ 9 [(0, .ref (zb g + a0)), (1, .int v1), (2, .int v2)] [.int x3] ?_ (fun k_J2 => ?_)
  · refine z_iload_n C0 dX12_sidesAt_9 rfl 1 rfl ?_
    refine z_aload_n C0 dX12_sidesAt_10 rfl 0 rfl ?_
    refine z_iconst (v := (2 : Int32)) C0 dX12_sidesAt_11 (by decide) ?_
    obtain ⟨r4, e_r4, h⟩ := zbd_of h
    refine z_callV (As := [.int (2 : Int32)]) (rest := [.int v1, .int x3]) C0 rfl kc_X12_of km_RX12_180 (r_X12_of (l := l) (g := g) a0 (2 : Int32) μ hT0 e_r4) hT0.1 hT0.2.2.1 rfl (by decide) rfl (Nat.le_of_ble_eq_true rfl) (Nat.le_of_ble_eq_true rfl) (Nat.le_of_ble_eq_true rfl) (Nat.le_of_ble_eq_true rfl) (Nat.le_refl _) rfl rfl dX12_sidesAt_12 ?_
    refine z_iadd C0 dX12_sidesAt_15 ?_
    refine z_aload_n C0 dX12_sidesAt_16 rfl 0 rfl ?_
    refine z_iconst (v := (0 : Int32)) C0 dX12_sidesAt_17 (by decide) ?_
    obtain ⟨r5, e_r5, h⟩ := zbd_of h
    refine z_callV (As := [.int (0 : Int32)]) (rest := [.int (v1 + r4), .int x3]) C0 rfl kc_X12_of km_RX12_180 (r_X12_of (l := l) (g := g) a0 (0 : Int32) μ hT0 e_r5) hT0.1 hT0.2.2.1 rfl (by decide) rfl (Nat.le_of_ble_eq_true rfl) (Nat.le_of_ble_eq_true rfl) (Nat.le_of_ble_eq_true rfl) (Nat.le_of_ble_eq_true rfl) (Nat.le_refl _) rfl rfl dX12_sidesAt_18 ?_
    obtain ⟨x8, e_x8, h⟩ := zl_of h
    refine z_join μ 29 [(0, .ref (zb g + a0)), (1, .int v1), (2, .int v2)] [.int x8, .int x3] ?_ (fun k_J7 => ?_)
    · refine z_iadd C0 dX12_sidesAt_29 ?_
      refine z_iload_n C0 dX12_sidesAt_30 rfl 2 rfl ?_
      refine z_aload_n C0 dX12_sidesAt_31 rfl 0 rfl ?_
      refine z_iconst (v := (3 : Int32)) C0 dX12_sidesAt_32 (by decide) ?_
      obtain ⟨r9, e_r9, h⟩ := zbd_of h
      refine z_callV (As := [.int (3 : Int32)]) (rest := [.int v2, .int (x3 + x8)]) C0 rfl kc_X12_of km_RX12_180 (r_X12_of (l := l) (g := g) a0 (3 : Int32) μ hT0 e_r9) hT0.1 hT0.2.2.1 rfl (by decide) rfl (Nat.le_of_ble_eq_true rfl) (Nat.le_of_ble_eq_true rfl) (Nat.le_of_ble_eq_true rfl) (Nat.le_of_ble_eq_true rfl) (Nat.le_refl _) rfl rfl dX12_sidesAt_33 ?_
      refine z_iadd C0 dX12_sidesAt_36 ?_
      refine z_aload_n C0 dX12_sidesAt_37 rfl 0 rfl ?_
      refine z_iconst (v := (1 : Int32)) C0 dX12_sidesAt_38 (by decide) ?_
      obtain ⟨r10, e_r10, h⟩ := zbd_of h
      refine z_callV (As := [.int (1 : Int32)]) (rest := [.int (v2 + r9), .int (x3 + x8)]) C0 rfl kc_X12_of km_RX12_180 (r_X12_of (l := l) (g := g) a0 (1 : Int32) μ hT0 e_r10) hT0.1 hT0.2.2.1 rfl (by decide) rfl (Nat.le_of_ble_eq_true rfl) (Nat.le_of_ble_eq_true rfl) (Nat.le_of_ble_eq_true rfl) (Nat.le_of_ble_eq_true rfl) (Nat.le_refl _) rfl rfl dX12_sidesAt_39 ?_
      obtain ⟨x13, e_x13, h⟩ := zl_of h
      refine z_join μ 50 [(1, .int v1)] [.int x13, .int (x3 + x8)] ?_ (fun k_J12 => ?_)
      · refine z_iadd C0 dX12_sidesAt_50 ?_
        refine z_iload_n C0 dX12_sidesAt_51 rfl 0 rfl ?_
        obtain ⟨x16, e_x16, h⟩ := zl_of h
        refine z_join μ 61 [] [.int x16, .int ((x3 + x8) + x13)] ?_ (fun k_J15 => ?_)
        · refine z_iadd C0 dX12_sidesAt_61 ?_
          have h := Option.some.inj h
          obtain rfl := h
          exact z_iret C0 rfl dX12_sidesAt_62
        · have h := e_x16.symm
          refine z_if_ne C0 60 dX12_sidesAt_52 (by decide) (fun c14 => ?_) (fun c14 => ?_)
          · have h := zif_t c14 h
            refine z_iconst (v := (0 : Int32)) C0 dX12_sidesAt_60 (by decide) ?_
            refine z_sub (lo1 := []) [] rfl ?_
            obtain rfl := h
            exact k_J15
          · have h := zif_f (fun q => q c14) h
            refine z_bipush (v := (8 : Int32)) C0 dX12_sidesAt_55 (by decide) ?_
            refine z_goto C0 61 dX12_sidesAt_57 (by decide) ?_
            refine z_sub (lo1 := []) [] rfl ?_
            obtain rfl := h
            exact k_J15
      · have h := e_x13.symm
        refine z_icmp_ne C0 49 dX12_sidesAt_42 (by decide) (fun c11 => ?_) (fun c11 => ?_)
        · have h := zif_t c11 h
          refine z_iconst (v := (0 : Int32)) C0 dX12_sidesAt_49 (by decide) ?_
          refine z_sub (lo1 := [(1, .int v1)]) [1] rfl ?_
          obtain rfl := h
          exact k_J12
        · have h := zif_f (fun q => q c11) h
          refine z_iconst (v := (4 : Int32)) C0 dX12_sidesAt_45 (by decide) ?_
          refine z_goto C0 50 dX12_sidesAt_46 (by decide) ?_
          refine z_sub (lo1 := [(1, .int v1)]) [1] rfl ?_
          obtain rfl := h
          exact k_J12
    · have h := e_x8.symm
      refine z_icmp_ne C0 28 dX12_sidesAt_21 (by decide) (fun c6 => ?_) (fun c6 => ?_)
      · have h := zif_t c6 h
        refine z_iconst (v := (0 : Int32)) C0 dX12_sidesAt_28 (by decide) ?_
        obtain rfl := h
        exact k_J7
      · have h := zif_f (fun q => q c6) h
        refine z_iconst (v := (2 : Int32)) C0 dX12_sidesAt_24 (by decide) ?_
        refine z_goto C0 29 dX12_sidesAt_25 (by decide) ?_
        obtain rfl := h
        exact k_J7
  · have h := e_x3.symm
    refine z_if_ne C0 8 dX12_sidesAt_1 (by decide) (fun c1 => ?_) (fun c1 => ?_)
    · have h := zif_t c1 h
      refine z_iconst (v := (0 : Int32)) C0 dX12_sidesAt_8 (by decide) ?_
      obtain rfl := h
      exact k_J2
    · have h := zif_f (fun q => q c1) h
      refine z_iconst (v := (1 : Int32)) C0 dX12_sidesAt_4 (by decide) ?_
      refine z_goto C0 9 dX12_sidesAt_5 (by decide) ?_
      obtain rfl := h
      exact k_J2
def f_X12_begins_L76 (a0 : Nat) : Nat → Int32 → zM → Option (zM)
  | 0, _, _ => none
  | n + 1, y16, μ17 =>
    if (5 : Int32) ≤ y16 then
      some μ17
    else
      zg (zin y16 5) <|
      zl (zup μ17 (a0 + 4) (y16.toNatClampNeg) (-1 : Int32)) fun μ20 =>
      zl (y16 + (1 : Int32)) fun x21 =>
      f_X12_begins_L76 a0 n x21 μ20
def f_X12_begins_L96 (a0 : Nat) : Nat → Int32 → zM → Option (zM)
  | 0, _, _ => none
  | n + 1, y24, μ25 =>
    if (16 : Int32) ≤ y24 then
      some μ25
    else
      zg (zin y24 16) <|
      zl (zup μ25 (a0 + 5) (y24.toNatClampNeg) (0 : Int32)) fun μ28 =>
      zl (y24 + (1 : Int32)) fun x29 =>
      f_X12_begins_L96 a0 n x29 μ28
def f_X12_begins (a0 : Nat) (μ : zM) : Option (zM) :=
  zbd (f_X12_of a0 (4 : Int32) μ) fun r1 =>
  zl (zup μ a0 12 r1) fun μ2 =>
  zbd (f_X12_of a0 (5 : Int32) μ2) fun r3 =>
  zl (zup μ2 a0 13 r3) fun μ4 =>
  zl (zup μ4 a0 14 (0 : Int32)) fun μ5 =>
  zl (zup μ5 a0 15 (0 : Int32)) fun μ6 =>
  zbd (f_X12_sidesAt a0 (μ6 a0 12) (μ6 a0 13) μ6) fun r7 =>
  zl (zup μ6 a0 16 r7) fun μ8 =>
  zl (zup μ8 a0 17 (0 : Int32)) fun μ9 =>
  zl (zup μ9 a0 18 (0 : Int32)) fun μ10 =>
  zl (zup μ10 a0 19 (0 : Int32)) fun μ11 =>
  zl (zup μ11 a0 20 (-1 : Int32)) fun μ12 =>
  zl (zup μ12 a0 21 (0 : Int32)) fun μ13 =>
  zl (zup μ13 a0 22 (0 : Int32)) fun μ14 =>
  zbd (f_X12_begins_L76 a0 zFU (0 : Int32) μ14) fun μ22 =>
  zbd (f_X12_begins_L96 a0 zFU (0 : Int32) μ22) fun μ30 =>
  some μ30
set_option maxHeartbeats 4000000 in
set_option maxRecDepth 100000 in
theorem r_X12_begins_L76 {l : Launch} {g : zL} {p : Program} {e : Env} {s : State} {m : MethodId} {args : Array Value} {below : List Frame} {meth : Method} {c : Code} {Q : State → Prop} (C0 : zC p s m args meth c g cX12_begins yX12_begins 2 none) (a0 : Nat) (hU15 : zT zNN zσ1 a0 12) : ∀ (n : Nat) (y16 : Int32) (μ17 : zM) (μ22 : zM), f_X12_begins_L76 a0 n y16 μ17 = some μ22 → Z p l e (zrm 2 0 0) s m args below meth c g Q 2 zNN 0 0 zσ1 μ22 94 [(0, .ref (zb g + a0))] [] → Z p l e (zrm 2 0 0) s m args below meth c g Q 2 zNN 0 0 zσ1 μ17 76 [(0, .ref (zb g + a0)), (1, .int y16)] [] := by
  intro n
  induction n with
  | zero =>
    intro y16 μ17 μ22 h kx
    rw [f_X12_begins_L76] at h
    cases h
  | succ n ih =>
    intro y16 μ17 μ22 h kx
    rw [f_X12_begins_L76] at h
    refine z_iload_n C0 dX12_begins_76 rfl 1 rfl ?_
    refine z_iconst (v := (5 : Int32)) C0 dX12_begins_77 (by decide) ?_
    refine z_icmp_ge C0 94 dX12_begins_78 (by decide) (fun c18 => ?_) (fun c18 => ?_)
    · have h := zif_t c18 h
      refine z_sub (lo1 := [(0, .ref (zb g + a0))]) [0] rfl ?_
      obtain rfl := (Option.some.inj h)
      exact kx
    · have h := zif_f c18 h
      refine z_aload_n C0 dX12_begins_81 rfl 0 rfl ?_
      refine z_getr C0 hU15 kf_12_20 zr_12_23 zx_12 (zs_12_23 hU15).1 dX12_begins_82 ?_
      refine z_iload_n C0 dX12_begins_85 rfl 1 rfl ?_
      refine z_iconst (v := (-1 : Int32)) C0 dX12_begins_86 (by decide) ?_
      obtain ⟨g19, h⟩ := zg_of h
      obtain ⟨μ20, e_μ20, h⟩ := zl_of h
      refine z_iast C0 (zs_12_23 hU15).2 g19 rfl e_μ20 dX12_begins_87 ?_
      obtain ⟨x21, e_x21, h⟩ := zl_of h
      refine z_iinc (lo1 := [(1, .int x21), (0, .ref (zb g + a0))]) C0 dX12_begins_88 1 rfl (by decide) e_x21.symm (by decide) rfl ?_
      refine z_goto C0 76 dX12_begins_91 (by decide) ?_
      refine z_sub (lo1 := [(0, .ref (zb g + a0)), (1, .int x21)]) [1, 0] rfl ?_
      exact ih _ _ _ h kx
set_option maxHeartbeats 4000000 in
set_option maxRecDepth 100000 in
theorem r_X12_begins_L96 {l : Launch} {g : zL} {p : Program} {e : Env} {s : State} {m : MethodId} {args : Array Value} {below : List Frame} {meth : Method} {c : Code} {Q : State → Prop} (C0 : zC p s m args meth c g cX12_begins yX12_begins 2 none) (a0 : Nat) (hU23 : zT zNN zσ1 a0 12) : ∀ (n : Nat) (y24 : Int32) (μ25 : zM) (μ30 : zM), f_X12_begins_L96 a0 n y24 μ25 = some μ30 → Z p l e (zrm 2 0 0) s m args below meth c g Q 2 zNN 0 0 zσ1 μ30 115 [] [] → Z p l e (zrm 2 0 0) s m args below meth c g Q 2 zNN 0 0 zσ1 μ25 96 [(0, .ref (zb g + a0)), (1, .int y24)] [] := by
  intro n
  induction n with
  | zero =>
    intro y24 μ25 μ30 h kx
    rw [f_X12_begins_L96] at h
    cases h
  | succ n ih =>
    intro y24 μ25 μ30 h kx
    rw [f_X12_begins_L96] at h
    refine z_iload_n C0 dX12_begins_96 rfl 1 rfl ?_
    refine z_bipush (v := (16 : Int32)) C0 dX12_begins_97 (by decide) ?_
    refine z_icmp_ge C0 115 dX12_begins_99 (by decide) (fun c26 => ?_) (fun c26 => ?_)
    · have h := zif_t c26 h
      refine z_sub (lo1 := []) [] rfl ?_
      obtain rfl := (Option.some.inj h)
      exact kx
    · have h := zif_f c26 h
      refine z_aload_n C0 dX12_begins_102 rfl 0 rfl ?_
      refine z_getr C0 hU23 kf_12_23 zr_12_24 zx_12 (zs_12_24 hU23).1 dX12_begins_103 ?_
      refine z_iload_n C0 dX12_begins_106 rfl 1 rfl ?_
      refine z_iconst (v := (0 : Int32)) C0 dX12_begins_107 (by decide) ?_
      obtain ⟨g27, h⟩ := zg_of h
      obtain ⟨μ28, e_μ28, h⟩ := zl_of h
      refine z_iast C0 (zs_12_24 hU23).2 g27 rfl e_μ28 dX12_begins_108 ?_
      obtain ⟨x29, e_x29, h⟩ := zl_of h
      refine z_iinc (lo1 := [(1, .int x29), (0, .ref (zb g + a0))]) C0 dX12_begins_109 1 rfl (by decide) e_x29.symm (by decide) rfl ?_
      refine z_goto C0 96 dX12_begins_112 (by decide) ?_
      refine z_sub (lo1 := [(0, .ref (zb g + a0)), (1, .int x29)]) [1, 0] rfl ?_
      exact ih _ _ _ h kx
set_option maxHeartbeats 4000000 in
set_option maxRecDepth 100000 in
theorem r_X12_begins {l : Launch} {g : zL} (a0 : Nat) (μ : zM) (hT0 : zT zNN zσ1 a0 12) {μr : zM} (h : f_X12_begins a0 μ = some μr) : zMet l g yX12_begins cX12_begins 2 none 2 0 0 zNN zNN zσ1 zσ1 [.ref (zb g + a0)] μ none μr := by
  refine zMet.of (by decide +kernel) (Nat.le_of_ble_eq_true rfl) ?_
  intro p e s m args below meth c C0
  refine z_loc (lo1 := [(0, .ref (zb g + a0))]) rfl ?_
  unfold f_X12_begins at h
  refine z_aload_n C0 dX12_begins_0 rfl 0 rfl ?_
  refine z_aload_n C0 dX12_begins_1 rfl 0 rfl ?_
  refine z_iconst (v := (4 : Int32)) C0 dX12_begins_2 (by decide) ?_
  obtain ⟨r1, e_r1, h⟩ := zbd_of h
  refine z_callV (As := [.int (4 : Int32)]) (rest := [.ref (zb g + a0)]) C0 rfl kc_X12_of km_RX12_180 (r_X12_of (l := l) (g := g) a0 (4 : Int32) μ hT0 e_r1) hT0.1 hT0.2.2.1 rfl (by decide) rfl (Nat.le_of_ble_eq_true rfl) (Nat.le_of_ble_eq_true rfl) (Nat.le_of_ble_eq_true rfl) (Nat.le_of_ble_eq_true rfl) (Nat.le_refl _) rfl rfl dX12_begins_3 ?_
  obtain ⟨μ2, e_μ2, h⟩ := zl_of h
  refine z_puti C0 hT0.1 hT0.2.2.1 kf_12_218 zp_12_12 zr_12_12 e_μ2 dX12_begins_6 ?_
  refine z_aload_n C0 dX12_begins_9 rfl 0 rfl ?_
  refine z_aload_n C0 dX12_begins_10 rfl 0 rfl ?_
  refine z_iconst (v := (5 : Int32)) C0 dX12_begins_11 (by decide) ?_
  obtain ⟨r3, e_r3, h⟩ := zbd_of h
  refine z_callV (As := [.int (5 : Int32)]) (rest := [.ref (zb g + a0)]) C0 rfl kc_X12_of km_RX12_180 (r_X12_of (l := l) (g := g) a0 (5 : Int32) μ2 hT0 e_r3) hT0.1 hT0.2.2.1 rfl (by decide) rfl (Nat.le_of_ble_eq_true rfl) (Nat.le_of_ble_eq_true rfl) (Nat.le_of_ble_eq_true rfl) (Nat.le_of_ble_eq_true rfl) (Nat.le_refl _) rfl rfl dX12_begins_12 ?_
  obtain ⟨μ4, e_μ4, h⟩ := zl_of h
  refine z_puti C0 hT0.1 hT0.2.2.1 kf_12_221 zp_12_13 zr_12_13 e_μ4 dX12_begins_15 ?_
  refine z_aload_n C0 dX12_begins_18 rfl 0 rfl ?_
  refine z_iconst (v := (0 : Int32)) C0 dX12_begins_19 (by decide) ?_
  obtain ⟨μ5, e_μ5, h⟩ := zl_of h
  refine z_puti C0 hT0.1 hT0.2.2.1 kf_12_224 zp_12_14 zr_12_14 e_μ5 dX12_begins_20 ?_
  refine z_aload_n C0 dX12_begins_23 rfl 0 rfl ?_
  refine z_iconst (v := (0 : Int32)) C0 dX12_begins_24 (by decide) ?_
  obtain ⟨μ6, e_μ6, h⟩ := zl_of h
  refine z_puti C0 hT0.1 hT0.2.2.1 kf_12_227 zp_12_15 zr_12_15 e_μ6 dX12_begins_25 ?_
  refine z_aload_n C0 dX12_begins_28 rfl 0 rfl ?_
  refine z_aload_n C0 dX12_begins_29 rfl 0 rfl ?_
  refine z_aload_n C0 dX12_begins_30 rfl 0 rfl ?_
  refine z_geti C0 hT0.1 hT0.2.2.1 kf_12_218 zr_12_12 dX12_begins_31 ?_
  refine z_aload_n C0 dX12_begins_34 rfl 0 rfl ?_
  refine z_geti C0 hT0.1 hT0.2.2.1 kf_12_221 zr_12_13 dX12_begins_35 ?_
  obtain ⟨r7, e_r7, h⟩ := zbd_of h
  refine z_callV (As := [.int (μ6 a0 12), .int (μ6 a0 13)]) (rest := [.ref (zb g + a0)]) C0 rfl kc_X12_sidesAt km_RX12_230 (r_X12_sidesAt (l := l) (g := g) a0 (μ6 a0 12) (μ6 a0 13) μ6 hT0 e_r7) hT0.1 hT0.2.2.1 rfl (by decide) rfl (Nat.le_of_ble_eq_true rfl) (Nat.le_of_ble_eq_true rfl) (Nat.le_of_ble_eq_true rfl) (Nat.le_of_ble_eq_true rfl) (Nat.le_refl _) rfl rfl dX12_begins_38 ?_
  obtain ⟨μ8, e_μ8, h⟩ := zl_of h
  refine z_puti C0 hT0.1 hT0.2.2.1 kf_12_233 zp_12_16 zr_12_16 e_μ8 dX12_begins_41 ?_
  refine z_aload_n C0 dX12_begins_44 rfl 0 rfl ?_
  refine z_iconst (v := (0 : Int32)) C0 dX12_begins_45 (by decide) ?_
  obtain ⟨μ9, e_μ9, h⟩ := zl_of h
  refine z_putb C0 hT0.1 hT0.2.2.1 kf_12_236 zp_12_17 zr_12_17 (by decide) e_μ9 dX12_begins_46 ?_
  refine z_aload_n C0 dX12_begins_49 rfl 0 rfl ?_
  refine z_iconst (v := (0 : Int32)) C0 dX12_begins_50 (by decide) ?_
  obtain ⟨μ10, e_μ10, h⟩ := zl_of h
  refine z_putb C0 hT0.1 hT0.2.2.1 kf_12_239 zp_12_18 zr_12_18 (by decide) e_μ10 dX12_begins_51 ?_
  refine z_aload_n C0 dX12_begins_54 rfl 0 rfl ?_
  refine z_iconst (v := (0 : Int32)) C0 dX12_begins_55 (by decide) ?_
  obtain ⟨μ11, e_μ11, h⟩ := zl_of h
  refine z_putb C0 hT0.1 hT0.2.2.1 kf_12_242 zp_12_19 zr_12_19 (by decide) e_μ11 dX12_begins_56 ?_
  refine z_aload_n C0 dX12_begins_59 rfl 0 rfl ?_
  refine z_iconst (v := (-1 : Int32)) C0 dX12_begins_60 (by decide) ?_
  obtain ⟨μ12, e_μ12, h⟩ := zl_of h
  refine z_puti C0 hT0.1 hT0.2.2.1 kf_12_245 zp_12_20 zr_12_20 e_μ12 dX12_begins_61 ?_
  refine z_aload_n C0 dX12_begins_64 rfl 0 rfl ?_
  refine z_iconst (v := (0 : Int32)) C0 dX12_begins_65 (by decide) ?_
  obtain ⟨μ13, e_μ13, h⟩ := zl_of h
  refine z_puti C0 hT0.1 hT0.2.2.1 kf_12_248 zp_12_21 zr_12_21 e_μ13 dX12_begins_66 ?_
  refine z_aload_n C0 dX12_begins_69 rfl 0 rfl ?_
  refine z_iconst (v := (0 : Int32)) C0 dX12_begins_70 (by decide) ?_
  obtain ⟨μ14, e_μ14, h⟩ := zl_of h
  refine z_puti C0 hT0.1 hT0.2.2.1 kf_12_251 zp_12_22 zr_12_22 e_μ14 dX12_begins_71 ?_
  refine z_iconst (v := (0 : Int32)) C0 dX12_begins_74 (by decide) ?_
  refine z_istore_n (lo1 := [(1, .int (0 : Int32)), (0, .ref (zb g + a0))]) C0 dX12_begins_75 rfl (by decide) rfl ?_
  refine z_sub (lo1 := [(0, .ref (zb g + a0)), (1, .int (0 : Int32))]) [1, 0] rfl ?_
  obtain ⟨μ22, e_μ22, h⟩ := zbd_of h
  refine r_X12_begins_L76 C0 a0 hT0 zFU (0 : Int32) μ14 μ22 e_μ22 ?_
  refine z_iconst (v := (0 : Int32)) C0 dX12_begins_94 (by decide) ?_
  refine z_istore_n (lo1 := [(1, .int (0 : Int32)), (0, .ref (zb g + a0))]) C0 dX12_begins_95 rfl (by decide) rfl ?_
  refine z_sub (lo1 := [(0, .ref (zb g + a0)), (1, .int (0 : Int32))]) [1, 0] rfl ?_
  obtain ⟨μ30, e_μ30, h⟩ := zbd_of h
  refine r_X12_begins_L96 C0 a0 hT0 zFU (0 : Int32) μ22 μ30 e_μ30 ?_
  have h := Option.some.inj h
  obtain rfl := h
  exact z_vret C0 rfl dX12_begins_115
