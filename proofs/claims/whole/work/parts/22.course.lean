def f_X0_cellOf (v0 : Int32) (v1 : Int32) : Int32 :=
  ((v1 * (12 : Int32)) + v0)
set_option maxHeartbeats 4000000 in
set_option maxRecDepth 100000 in
theorem r_X0_cellOf {l : Launch} {g : zL} (v0 : Int32) (v1 : Int32) {μ : zM}  {rv : Int32} (h : f_X0_cellOf v0 v1 = rv) : zMet l g yX0_cellOf cX0_cellOf 2 (some (.int)) 0 0 0 zNN zNN zσ1 zσ1 [.int v0, .int v1] μ (some (.int rv)) μ := by
  refine zMet.of (by decide +kernel) (Nat.le_of_ble_eq_true rfl) ?_
  intro p e s m args below meth c C0
  refine z_loc (lo1 := [(0, .int v0), (1, .int v1)]) rfl ?_
  unfold f_X0_cellOf at h
  refine z_iload_n C0 dX0_cellOf_0 rfl 1 rfl ?_
  refine z_bipush (v := (12 : Int32)) C0 dX0_cellOf_1 (by decide) ?_
  refine z_imul C0 dX0_cellOf_3 ?_
  refine z_iload_n C0 dX0_cellOf_4 rfl 0 rfl ?_
  refine z_iadd C0 dX0_cellOf_5 ?_
  skip
  obtain rfl := h
  exact z_iret C0 rfl dX0_cellOf_6
def f_X0_cellsReached_L4 (a0 : Nat) (μ4 : zM) : Nat → Int32 → Int32 → Option (Int32)
  | 0, _, _ => none
  | n + 1, y2, y3 =>
    if (144 : Int32) ≤ y3 then
      some y2
    else
      zg (zin y3 144) <|
      zl (if (μ4 (a0 + 6) (y3.toNatClampNeg)) = 0 then
          (0 : Int32)
        else
          (1 : Int32)) fun x9 =>
      zl (y2 + x9) fun x10 =>
      zl (y3 + (1 : Int32)) fun x11 =>
      f_X0_cellsReached_L4 a0 μ4 n x10 x11
def f_X0_cellsReached (a0 : Nat) (μ : zM) : Option (Int32) :=
  zbd (f_X0_cellsReached_L4 a0 μ zFU (0 : Int32) (0 : Int32)) fun x12 =>
  some x12
set_option maxHeartbeats 4000000 in
set_option maxRecDepth 100000 in
theorem r_X0_cellsReached_L4 {l : Launch} {g : zL} {p : Program} {e : Env} {s : State} {m : MethodId} {args : Array Value} {below : List Frame} {meth : Method} {c : Code} {Q : State → Prop} (C0 : zC p s m args meth c g cX0_cellsReached yX0_cellsReached 3 (some (.int))) (a0 : Nat) (μ4 : zM) (hU1 : zT zNN zσ1 a0 0) : ∀ (n : Nat) (y2 : Int32) (y3 : Int32) (x12 : Int32), f_X0_cellsReached_L4 a0 μ4 n y2 y3 = some x12 → Z p l e (zrm 0 0 0) s m args below meth c g Q 3 zNN 0 0 zσ1 μ4 34 [(1, .int x12)] [] → Z p l e (zrm 0 0 0) s m args below meth c g Q 3 zNN 0 0 zσ1 μ4 4 [(0, .ref (zb g + a0)), (1, .int y2), (2, .int y3)] [] := by
  intro n
  induction n with
  | zero =>
    intro y2 y3 x12 h kx
    rw [f_X0_cellsReached_L4] at h
    cases h
  | succ n ih =>
    intro y2 y3 x12 h kx
    rw [f_X0_cellsReached_L4] at h
    refine z_iload_n C0 dX0_cellsReached_4 rfl 2 rfl ?_
    refine z_sipush (v := (144 : Int32)) C0 dX0_cellsReached_5 (by decide) ?_
    refine z_icmp_ge C0 34 dX0_cellsReached_8 (by decide) (fun c5 => ?_) (fun c5 => ?_)
    · have h := zif_t c5 h
      refine z_sub (lo1 := [(1, .int y2)]) [1] rfl ?_
      obtain rfl := (Option.some.inj h)
      exact kx
    · have h := zif_f c5 h
      refine z_iload_n C0 dX0_cellsReached_11 rfl 1 rfl ?_
      refine z_aload_n C0 dX0_cellsReached_12 rfl 0 rfl ?_
      refine z_getr C0 hU1 kf_0_27 zr_0_5 zx_0 (zs_0_5 hU1).1 dX0_cellsReached_13 ?_
      refine z_iload_n C0 dX0_cellsReached_16 rfl 2 rfl ?_
      obtain ⟨g6, h⟩ := zg_of h
      refine z_bald C0 (zs_0_5 hU1).2 g6 rfl dX0_cellsReached_17 ?_
      obtain ⟨x9, e_x9, h⟩ := zl_of h
      refine z_join μ4 26 [(0, .ref (zb g + a0)), (2, .int y3)] [.int x9, .int y2] ?_ (fun k_J8 => ?_)
      · refine z_iadd C0 dX0_cellsReached_26 ?_
        obtain ⟨x10, e_x10, h⟩ := zl_of h
        refine z_nm e_x10 ?_
        refine z_istore_n (lo1 := [(1, .int x10), (0, .ref (zb g + a0)), (2, .int y3)]) C0 dX0_cellsReached_27 rfl (by decide) rfl ?_
        obtain ⟨x11, e_x11, h⟩ := zl_of h
        refine z_iinc (lo1 := [(2, .int x11), (1, .int x10), (0, .ref (zb g + a0))]) C0 dX0_cellsReached_28 2 rfl (by decide) e_x11.symm (by decide) rfl ?_
        refine z_goto C0 4 dX0_cellsReached_31 (by decide) ?_
        refine z_sub (lo1 := [(0, .ref (zb g + a0)), (1, .int x10), (2, .int x11)]) [2, 1, 0] rfl ?_
        exact ih _ _ _ h kx
      · have h := e_x9.symm
        refine z_if_eq C0 25 dX0_cellsReached_18 (by decide) (fun c7 => ?_) (fun c7 => ?_)
        · have h := zif_t c7 h
          refine z_iconst (v := (0 : Int32)) C0 dX0_cellsReached_25 (by decide) ?_
          refine z_sub (lo1 := [(0, .ref (zb g + a0)), (2, .int y3)]) [0, 2] rfl ?_
          obtain rfl := h
          exact k_J8
        · have h := zif_f c7 h
          refine z_iconst (v := (1 : Int32)) C0 dX0_cellsReached_21 (by decide) ?_
          refine z_goto C0 26 dX0_cellsReached_22 (by decide) ?_
          refine z_sub (lo1 := [(0, .ref (zb g + a0)), (2, .int y3)]) [0, 2] rfl ?_
          obtain rfl := h
          exact k_J8
set_option maxHeartbeats 4000000 in
set_option maxRecDepth 100000 in
theorem r_X0_cellsReached {l : Launch} {g : zL} (a0 : Nat) (μ : zM) (hT0 : zT zNN zσ1 a0 0) {rv : Int32} (h : f_X0_cellsReached a0 μ = some rv) : zMet l g yX0_cellsReached cX0_cellsReached 3 (some (.int)) 0 0 0 zNN zNN zσ1 zσ1 [.ref (zb g + a0)] μ (some (.int rv)) μ := by
  refine zMet.of (by decide +kernel) (Nat.le_of_ble_eq_true rfl) ?_
  intro p e s m args below meth c C0
  refine z_loc (lo1 := [(0, .ref (zb g + a0))]) rfl ?_
  unfold f_X0_cellsReached at h
  refine z_iconst (v := (0 : Int32)) C0 dX0_cellsReached_0 (by decide) ?_
  refine z_istore_n (lo1 := [(1, .int (0 : Int32)), (0, .ref (zb g + a0))]) C0 dX0_cellsReached_1 rfl (by decide) rfl ?_
  refine z_iconst (v := (0 : Int32)) C0 dX0_cellsReached_2 (by decide) ?_
  refine z_istore_n (lo1 := [(2, .int (0 : Int32)), (1, .int (0 : Int32)), (0, .ref (zb g + a0))]) C0 dX0_cellsReached_3 rfl (by decide) rfl ?_
  refine z_sub (lo1 := [(0, .ref (zb g + a0)), (1, .int (0 : Int32)), (2, .int (0 : Int32))]) [2, 1, 0] rfl ?_
  obtain ⟨x12, e_x12, h⟩ := zbd_of h
  refine r_X0_cellsReached_L4 C0 a0 μ hT0 zFU (0 : Int32) (0 : Int32) x12 e_x12 ?_
  refine z_iload_n C0 dX0_cellsReached_34 rfl 0 rfl ?_
  have h := Option.some.inj h
  obtain rfl := h
  exact z_iret C0 rfl dX0_cellsReached_35
def f_X0_chart_L116 (a0 : Nat) (a1 : Nat) (y4 : Int32) (x7 : Int32) (x8 : Int32) (r20 : Int32) : Nat → Int32 → zM → Option (zM)
  | 0, _, _ => none
  | n + 1, y23, μ24 =>
    if (9 : Int32) ≤ y23 then
      some μ24
    else
      zl (f_X4_putAt (a0 + 8) x7 x8 μ24) fun μ26 =>
      zbd (if r20 = 0 then
          some μ26
        else
          zbd (f_X4_move (a0 + 8) ((y23 % (3 : Int32)) - (1 : Int32)) ((y23 / (3 : Int32)) - (1 : Int32)) μ26) fun μ29 =>
          some μ29) fun μ30 =>
      zg (zin ((y4 * (9 : Int32)) + y23) 1296) <|
      zl (zup μ30 (a0 + 3) (((y4 * (9 : Int32)) + y23).toNatClampNeg) (f_X0_cellOf (μ30 (a0 + 8) 2) (μ30 (a0 + 8) 3))) fun μ32 =>
      zl (y23 + (1 : Int32)) fun x33 =>
      f_X0_chart_L116 a0 a1 y4 x7 x8 r20 n x33 μ32
def f_X0_chart_L11 (a0 : Nat) (a1 : Nat) : Nat → Int32 → zM → Option (zM)
  | 0, _, _ => none
  | n + 1, y4, μ5 =>
    if (144 : Int32) ≤ y4 then
      some μ5
    else
      zl (y4 % (12 : Int32)) fun x7 =>
      zl (y4 / (12 : Int32)) fun x8 =>
      zl (f_X4_putAt (a0 + 8) x7 x8 μ5) fun μ9 =>
      zbd (f_X4_sides (a0 + 8) μ9) fun r10 =>
      zl (if ¬ ((r10 >>> ((μ9 (a1 + 1) 9) &&& 31)) &&& (1 : Int32)) = (1 : Int32) then
          (0 : Int32)
        else
          (1 : Int32)) fun x13 =>
      zg (zin y4 144) <|
      zl (zup μ9 (a0 + 4) (y4.toNatClampNeg) x13) fun μ15 =>
      zl (if ¬ ((r10 >>> ((μ15 (a1 + 1) 10) &&& 31)) &&& (1 : Int32)) = (1 : Int32) then
          (0 : Int32)
        else
          (2 : Int32)) fun x18 =>
      zl (zup μ15 (a0 + 4) (y4.toNatClampNeg) ((μ15 (a0 + 4) (y4.toNatClampNeg)) ||| x18)) fun μ19 =>
      zbd (f_X1_floats a1 a1 x7 x8 μ19) fun r20 =>
      zbd (f_X0_chart_L116 a0 a1 y4 x7 x8 r20 zFU (0 : Int32) μ19) fun μ34 =>
      zl (y4 + (1 : Int32)) fun x35 =>
      f_X0_chart_L11 a0 a1 n x35 μ34
def f_X0_chart (a0 : Nat) (a1 : Nat) (μ : zM) : Option (zM) :=
  zbd (f_X4_launch (a0 + 8) a1 a1 μ) fun μ1 =>
  zbd (f_X0_chart_L11 a0 a1 zFU (0 : Int32) μ1) fun μ36 =>
  some μ36
set_option maxHeartbeats 4000000 in
set_option maxRecDepth 100000 in
theorem r_X0_chart_L116 {l : Launch} {g : zL} {κ : zK} {p : Program} {e : Env} {s : State} {m : MethodId} {args : Array Value} {below : List Frame} {meth : Method} {c : Code} {Q : State → Prop} (C0 : zC p s m args meth c g cX0_chart yX0_chart 8 none) (hSp : zSK g κ) (a0 : Nat) (a1 : Nat) (y4 : Int32) (x7 : Int32) (x8 : Int32) (r20 : Int32) (hU21 : zT zNN zσ1 a0 0) (hU22 : zT zNN zσ1 a1 1) : ∀ (n : Nat) (y23 : Int32) (μ24 : zM) (μ34 : zM), f_X0_chart_L116 a0 a1 y4 x7 x8 r20 n y23 μ24 = some μ34 → Z p l e (zrm 3 0 0) s m args below meth c g Q 8 zNN 0 0 zσ1 μ34 192 [(0, .ref (zb g + a0)), (1, .ref (zb g + a1)), (2, .int y4)] [] → Z p l e (zrm 3 0 0) s m args below meth c g Q 8 zNN 0 0 zσ1 μ24 116 [(0, .ref (zb g + a0)), (1, .ref (zb g + a1)), (2, .int y4), (3, .int x7), (4, .int x8), (6, .int r20), (7, .int y23)] [] := by
  have hF := hSp.at C0
  intro n
  induction n with
  | zero =>
    intro y23 μ24 μ34 h kx
    rw [f_X0_chart_L116] at h
    cases h
  | succ n ih =>
    intro y23 μ24 μ34 h kx
    rw [f_X0_chart_L116] at h
    refine z_iload C0 dX0_chart_116 6 rfl ?_
    refine z_bipush (v := (9 : Int32)) C0 dX0_chart_118 (by decide) ?_
    refine z_icmp_ge C0 192 dX0_chart_120 (by decide) (fun c25 => ?_) (fun c25 => ?_)
    · have h := zif_t c25 h
      refine z_sub (lo1 := [(0, .ref (zb g + a0)), (1, .ref (zb g + a1)), (2, .int y4)]) [0, 1, 2] rfl ?_
      obtain rfl := (Option.some.inj h)
      exact kx
    · have h := zif_f c25 h
      refine z_aload_n C0 dX0_chart_123 rfl 0 rfl ?_
      refine z_getr C0 hU21 kf_0_39 zr_0_7 zx_0 (zs_0_7 hU21).1 dX0_chart_124 ?_
      refine z_iload_n C0 dX0_chart_127 rfl 3 rfl ?_
      refine z_iload C0 dX0_chart_128 4 rfl ?_
      obtain ⟨μ26, e_μ26, h⟩ := zl_of h
      refine z_callV (As := [.int x7, .int x8]) (rest := []) C0 rfl kc_X4_putAt km_RX0_95 (r_X4_putAt (l := l) (g := g) (a0 + 8) x7 x8 μ24 (zs_0_7 hU21).2 e_μ26.symm) (zs_0_7 hU21).2.1 (zs_0_7 hU21).2.2.2.1 rfl (by decide) rfl (Nat.le_of_ble_eq_true rfl) (Nat.le_of_ble_eq_true rfl) (Nat.le_of_ble_eq_true rfl) (Nat.le_of_ble_eq_true rfl) (Nat.le_refl _) rfl rfl dX0_chart_130 ?_
      refine z_iload C0 dX0_chart_133 5 rfl ?_
      obtain ⟨μ30, e_μ30, h⟩ := zbd_of h
      refine z_join μ30 157 [(0, .ref (zb g + a0)), (1, .ref (zb g + a1)), (2, .int y4), (3, .int x7), (4, .int x8), (6, .int r20), (7, .int y23)] [] ?_ (fun k_J28 => ?_)
      · refine z_aload_n C0 dX0_chart_157 rfl 0 rfl ?_
        refine z_getr C0 hU21 kf_0_18 zr_0_2 zx_0 (zs_0_2 hU21).1 dX0_chart_158 ?_
        refine z_iload_n C0 dX0_chart_161 rfl 2 rfl ?_
        refine z_bipush (v := (9 : Int32)) C0 dX0_chart_162 (by decide) ?_
        refine z_imul C0 dX0_chart_164 ?_
        refine z_iload C0 dX0_chart_165 6 rfl ?_
        refine z_iadd C0 dX0_chart_167 ?_
        refine z_aload_n C0 dX0_chart_168 rfl 0 rfl ?_
        refine z_getr C0 hU21 kf_0_39 zr_0_7 zx_0 (zs_0_7 hU21).1 dX0_chart_169 ?_
        refine z_geti C0 (zs_0_7 hU21).2.1 (zs_0_7 hU21).2.2.2.1 kf_0_112 zr_4_2 dX0_chart_172 ?_
        refine z_aload_n C0 dX0_chart_175 rfl 0 rfl ?_
        refine z_getr C0 hU21 kf_0_39 zr_0_7 zx_0 (zs_0_7 hU21).1 dX0_chart_176 ?_
        refine z_geti C0 (zs_0_7 hU21).2.1 (zs_0_7 hU21).2.2.2.1 kf_0_115 zr_4_3 dX0_chart_179 ?_
        refine z_callS (As := [.int (μ30 (a0 + 8) 2), .int (μ30 (a0 + 8) 3)]) (rest := [.int ((y4 * (9 : Int32)) + y23), .ref (zb g + (a0 + 3))]) C0 rfl kc_X0_cellOf km_RX0_118 (r_X0_cellOf (l := l) (g := g) (μ := μ30) (μ30 (a0 + 8) 2) (μ30 (a0 + 8) 3) rfl) rfl (Nat.le_of_ble_eq_true rfl) (Nat.le_of_ble_eq_true rfl) (Nat.le_of_ble_eq_true rfl) (Nat.le_of_ble_eq_true rfl) (Nat.le_refl _) rfl rfl dX0_chart_182 ?_
        obtain ⟨g31, h⟩ := zg_of h
        obtain ⟨μ32, e_μ32, h⟩ := zl_of h
        refine z_iast C0 (zs_0_2 hU21).2 g31 rfl e_μ32 dX0_chart_185 ?_
        obtain ⟨x33, e_x33, h⟩ := zl_of h
        refine z_iinc (lo1 := [(7, .int x33), (0, .ref (zb g + a0)), (1, .ref (zb g + a1)), (2, .int y4), (3, .int x7), (4, .int x8), (6, .int r20)]) C0 dX0_chart_186 6 rfl (by decide) e_x33.symm (by decide) rfl ?_
        refine z_goto C0 116 dX0_chart_189 (by decide) ?_
        refine z_sub (lo1 := [(0, .ref (zb g + a0)), (1, .ref (zb g + a1)), (2, .int y4), (3, .int x7), (4, .int x8), (6, .int r20), (7, .int x33)]) [1, 2, 3, 4, 5, 6, 0] rfl ?_
        exact ih _ _ _ h kx
      · have h := e_μ30
        refine z_if_eq C0 157 dX0_chart_135 (by decide) (fun c27 => ?_) (fun c27 => ?_)
        · have h := zif_t c27 h
          obtain rfl := (Option.some.inj h)
          exact k_J28
        · have h := zif_f c27 h
          refine z_aload_n C0 dX0_chart_138 rfl 0 rfl ?_
          refine z_getr C0 hU21 kf_0_39 zr_0_7 zx_0 (zs_0_7 hU21).1 dX0_chart_139 ?_
          refine z_iload C0 dX0_chart_142 6 rfl ?_
          refine z_iconst (v := (3 : Int32)) C0 dX0_chart_144 (by decide) ?_
          refine z_irem C0 dX0_chart_145 (by decide) ?_
          refine z_iconst (v := (1 : Int32)) C0 dX0_chart_146 (by decide) ?_
          refine z_isub C0 dX0_chart_147 ?_
          refine z_iload C0 dX0_chart_148 6 rfl ?_
          refine z_iconst (v := (3 : Int32)) C0 dX0_chart_150 (by decide) ?_
          refine z_idiv C0 dX0_chart_151 (by decide) ?_
          refine z_iconst (v := (1 : Int32)) C0 dX0_chart_152 (by decide) ?_
          refine z_isub C0 dX0_chart_153 ?_
          obtain ⟨μ29, e_μ29, h⟩ := zbd_of h
          refine z_callV (As := [.int ((y23 % (3 : Int32)) - (1 : Int32)), .int ((y23 / (3 : Int32)) - (1 : Int32))]) (rest := []) C0 rfl kc_X4_move km_RX0_109 (r_X4_move (l := l) (g := g) (a0 + 8) ((y23 % (3 : Int32)) - (1 : Int32)) ((y23 / (3 : Int32)) - (1 : Int32)) μ26 (zs_0_7 hU21).2 e_μ29) (zs_0_7 hU21).2.1 (zs_0_7 hU21).2.2.2.1 rfl (by decide) rfl (Nat.le_of_ble_eq_true rfl) (Nat.le_of_ble_eq_true rfl) (Nat.le_of_ble_eq_true rfl) (Nat.le_of_ble_eq_true rfl) (Nat.le_refl _) rfl rfl dX0_chart_154 ?_
          obtain rfl := (Option.some.inj h)
          exact k_J28
set_option maxHeartbeats 4000000 in
set_option maxRecDepth 100000 in
theorem r_X0_chart_L11 {l : Launch} {g : zL} {κ : zK} {p : Program} {e : Env} {s : State} {m : MethodId} {args : Array Value} {below : List Frame} {meth : Method} {c : Code} {Q : State → Prop} (C0 : zC p s m args meth c g cX0_chart yX0_chart 8 none) (hSp : zSK g κ) (a0 : Nat) (a1 : Nat) (hU2 : zT zNN zσ1 a0 0) (hU3 : zT zNN zσ1 a1 1) : ∀ (n : Nat) (y4 : Int32) (μ5 : zM) (μ36 : zM), f_X0_chart_L11 a0 a1 n y4 μ5 = some μ36 → Z p l e (zrm 3 0 0) s m args below meth c g Q 8 zNN 0 0 zσ1 μ36 198 [] [] → Z p l e (zrm 3 0 0) s m args below meth c g Q 8 zNN 0 0 zσ1 μ5 11 [(0, .ref (zb g + a0)), (1, .ref (zb g + a1)), (2, .int y4)] [] := by
  have hF := hSp.at C0
  intro n
  induction n with
  | zero =>
    intro y4 μ5 μ36 h kx
    rw [f_X0_chart_L11] at h
    cases h
  | succ n ih =>
    intro y4 μ5 μ36 h kx
    rw [f_X0_chart_L11] at h
    refine z_iload_n C0 dX0_chart_11 rfl 2 rfl ?_
    refine z_sipush (v := (144 : Int32)) C0 dX0_chart_12 (by decide) ?_
    refine z_icmp_ge C0 198 dX0_chart_15 (by decide) (fun c6 => ?_) (fun c6 => ?_)
    · have h := zif_t c6 h
      refine z_sub (lo1 := []) [] rfl ?_
      obtain rfl := (Option.some.inj h)
      exact kx
    · have h := zif_f c6 h
      refine z_iload_n C0 dX0_chart_18 rfl 2 rfl ?_
      refine z_bipush (v := (12 : Int32)) C0 dX0_chart_19 (by decide) ?_
      refine z_irem C0 dX0_chart_21 (by decide) ?_
      obtain ⟨x7, e_x7, h⟩ := zl_of h
      refine z_nm e_x7 ?_
      refine z_istore_n (lo1 := [(3, .int x7), (0, .ref (zb g + a0)), (1, .ref (zb g + a1)), (2, .int y4)]) C0 dX0_chart_22 rfl (by decide) rfl ?_
      refine z_iload_n C0 dX0_chart_23 rfl 3 rfl ?_
      refine z_bipush (v := (12 : Int32)) C0 dX0_chart_24 (by decide) ?_
      refine z_idiv C0 dX0_chart_26 (by decide) ?_
      obtain ⟨x8, e_x8, h⟩ := zl_of h
      refine z_nm e_x8 ?_
      refine z_istore (lo1 := [(4, .int x8), (3, .int x7), (0, .ref (zb g + a0)), (1, .ref (zb g + a1)), (2, .int y4)]) C0 dX0_chart_27 (by decide) rfl ?_
      refine z_aload_n C0 dX0_chart_29 rfl 2 rfl ?_
      refine z_getr C0 hU2 kf_0_39 zr_0_7 zx_0 (zs_0_7 hU2).1 dX0_chart_30 ?_
      refine z_iload_n C0 dX0_chart_33 rfl 1 rfl ?_
      refine z_iload C0 dX0_chart_34 0 rfl ?_
      obtain ⟨μ9, e_μ9, h⟩ := zl_of h
      refine z_callV (As := [.int x7, .int x8]) (rest := []) C0 rfl kc_X4_putAt km_RX0_95 (r_X4_putAt (l := l) (g := g) (a0 + 8) x7 x8 μ5 (zs_0_7 hU2).2 e_μ9.symm) (zs_0_7 hU2).2.1 (zs_0_7 hU2).2.2.2.1 rfl (by decide) rfl (Nat.le_of_ble_eq_true rfl) (Nat.le_of_ble_eq_true rfl) (Nat.le_of_ble_eq_true rfl) (Nat.le_of_ble_eq_true rfl) (Nat.le_refl _) rfl rfl dX0_chart_36 ?_
      refine z_aload_n C0 dX0_chart_39 rfl 2 rfl ?_
      refine z_getr C0 hU2 kf_0_39 zr_0_7 zx_0 (zs_0_7 hU2).1 dX0_chart_40 ?_
      obtain ⟨r10, e_r10, h⟩ := zbd_of h
      refine z_callV (As := []) (rest := []) C0 rfl kc_X4_sides km_RX0_98 (r_X4_sides (l := l) (g := g) (a0 + 8) μ9 (zs_0_7 hU2).2 e_r10) (zs_0_7 hU2).2.1 (zs_0_7 hU2).2.2.2.1 rfl (by decide) rfl (Nat.le_of_ble_eq_true rfl) (Nat.le_of_ble_eq_true rfl) (Nat.le_of_ble_eq_true rfl) (Nat.le_of_ble_eq_true rfl) (Nat.le_refl _) rfl rfl dX0_chart_43 ?_
      refine z_istore (lo1 := [(5, .int r10), (4, .int x8), (3, .int x7), (0, .ref (zb g + a0)), (1, .ref (zb g + a1)), (2, .int y4)]) C0 dX0_chart_46 (by decide) rfl ?_
      refine z_aload_n C0 dX0_chart_48 rfl 3 rfl ?_
      refine z_getr C0 hU2 kf_0_21 zr_0_3 zx_0 (zs_0_3 hU2).1 dX0_chart_49 ?_
      refine z_iload_n C0 dX0_chart_52 rfl 5 rfl ?_
      refine z_iload C0 dX0_chart_53 0 rfl ?_
      refine z_aload_n C0 dX0_chart_55 rfl 4 rfl ?_
      refine z_getr C0 hU3 kf_0_102 zr_1_0 zx_1 (zs_1_0 hU3).1 dX0_chart_56 ?_
      refine z_bipush (v := (9 : Int32)) C0 dX0_chart_59 (by decide) ?_
      refine z_iald (j := 9) C0 (zs_1_0 hU3).2 (by decide : zin (9 : Int32) 11 = true) (by decide) dX0_chart_61 ?_
      refine z_callSN (As := [.int r10, .int (μ9 (a1 + 1) 9)]) (rest := [.int y4, .ref (zb g + (a0 + 4))]) C0 rfl kc_X11_isIn (hF.2.2.2.2.2.2.2.1 _ (List.mem_of_getElem? (i := 8) rfl)) (r_X11_isIn (l := l) (g := g) (μ := μ9) r10 (μ9 (a1 + 1) 9) rfl) rfl (Nat.le_of_ble_eq_true rfl) (Nat.le_of_ble_eq_true rfl) (Nat.le_of_ble_eq_true rfl) (Nat.le_of_ble_eq_true rfl) rfl rfl dX0_chart_62 ?_
      obtain ⟨x13, e_x13, h⟩ := zl_of h
      refine z_join μ9 73 [(0, .ref (zb g + a0)), (1, .ref (zb g + a1)), (2, .int y4), (3, .int x7), (4, .int x8), (5, .int r10)] [.int x13, .int y4, .ref (zb g + (a0 + 4))] ?_ (fun k_J12 => ?_)
      · obtain ⟨g14, h⟩ := zg_of h
        obtain ⟨μ15, e_μ15, h⟩ := zl_of h
        refine z_iast C0 (zs_0_3 hU2).2 g14 rfl e_μ15 dX0_chart_73 ?_
        refine z_aload_n C0 dX0_chart_74 rfl 0 rfl ?_
        refine z_getr C0 hU2 kf_0_21 zr_0_3 zx_0 (zs_0_3 hU2).1 dX0_chart_75 ?_
        refine z_iload_n C0 dX0_chart_78 rfl 2 rfl ?_
        refine z_dup2 C0 dX0_chart_79 rfl rfl ?_
        refine z_iald C0 (zs_0_3 hU2).2 g14 rfl dX0_chart_80 ?_
        refine z_iload C0 dX0_chart_81 5 rfl ?_
        refine z_aload_n C0 dX0_chart_83 rfl 1 rfl ?_
        refine z_getr C0 hU3 kf_0_102 zr_1_0 zx_1 (zs_1_0 hU3).1 dX0_chart_84 ?_
        refine z_bipush (v := (10 : Int32)) C0 dX0_chart_87 (by decide) ?_
        refine z_iald (j := 10) C0 (zs_1_0 hU3).2 (by decide : zin (10 : Int32) 11 = true) (by decide) dX0_chart_89 ?_
        refine z_callSN (As := [.int r10, .int (μ15 (a1 + 1) 10)]) (rest := [.int (μ15 (a0 + 4) (y4.toNatClampNeg)), .int y4, .ref (zb g + (a0 + 4))]) C0 rfl kc_X11_isIn (hF.2.2.2.2.2.2.2.1 _ (List.mem_of_getElem? (i := 8) rfl)) (r_X11_isIn (l := l) (g := g) (μ := μ15) r10 (μ15 (a1 + 1) 10) rfl) rfl (Nat.le_of_ble_eq_true rfl) (Nat.le_of_ble_eq_true rfl) (Nat.le_of_ble_eq_true rfl) (Nat.le_of_ble_eq_true rfl) rfl rfl dX0_chart_90 ?_
        obtain ⟨x18, e_x18, h⟩ := zl_of h
        refine z_join μ15 101 [(0, .ref (zb g + a0)), (1, .ref (zb g + a1)), (2, .int y4), (3, .int x7), (4, .int x8)] [.int x18, .int (μ15 (a0 + 4) (y4.toNatClampNeg)), .int y4, .ref (zb g + (a0 + 4))] ?_ (fun k_J17 => ?_)
        · refine z_ior C0 dX0_chart_101 ?_
          obtain ⟨μ19, e_μ19, h⟩ := zl_of h
          refine z_iast C0 (zs_0_3 hU2).2 g14 rfl e_μ19 dX0_chart_102 ?_
          refine z_aload_n C0 dX0_chart_103 rfl 1 rfl ?_
          refine z_aload_n C0 dX0_chart_104 rfl 1 rfl ?_
          refine z_iload_n C0 dX0_chart_105 rfl 3 rfl ?_
          refine z_iload C0 dX0_chart_106 4 rfl ?_
          obtain ⟨r20, e_r20, h⟩ := zbd_of h
          refine z_callV (As := [.ref (zb g + a1), .int x7, .int x8]) (rest := []) C0 rfl kc_X1_floats km_RX0_105 (r_X1_floats (l := l) (g := g) a1 a1 x7 x8 μ19 hU3 hU3 e_r20) hU3.1 hU3.2.2.1 rfl (by decide) rfl (Nat.le_of_ble_eq_true rfl) (Nat.le_of_ble_eq_true rfl) (Nat.le_of_ble_eq_true rfl) (Nat.le_of_ble_eq_true rfl) (Nat.le_refl _) rfl rfl dX0_chart_108 ?_
          refine z_istore (lo1 := [(6, .int r20), (0, .ref (zb g + a0)), (1, .ref (zb g + a1)), (2, .int y4), (3, .int x7), (4, .int x8)]) C0 dX0_chart_111 (by decide) rfl ?_
          refine z_iconst (v := (0 : Int32)) C0 dX0_chart_113 (by decide) ?_
          refine z_istore (lo1 := [(7, .int (0 : Int32)), (6, .int r20), (0, .ref (zb g + a0)), (1, .ref (zb g + a1)), (2, .int y4), (3, .int x7), (4, .int x8)]) C0 dX0_chart_114 (by decide) rfl ?_
          refine z_sub (lo1 := [(0, .ref (zb g + a0)), (1, .ref (zb g + a1)), (2, .int y4), (3, .int x7), (4, .int x8), (6, .int r20), (7, .int (0 : Int32))]) [2, 3, 4, 5, 6, 1, 0] rfl ?_
          obtain ⟨μ34, e_μ34, h⟩ := zbd_of h
          refine r_X0_chart_L116 C0 hSp a0 a1 y4 x7 x8 r20 hU2 hU3 zFU (0 : Int32) μ19 μ34 e_μ34 ?_
          obtain ⟨x35, e_x35, h⟩ := zl_of h
          refine z_iinc (lo1 := [(2, .int x35), (0, .ref (zb g + a0)), (1, .ref (zb g + a1))]) C0 dX0_chart_192 2 rfl (by decide) e_x35.symm (by decide) rfl ?_
          refine z_goto C0 11 dX0_chart_195 (by decide) ?_
          refine z_sub (lo1 := [(0, .ref (zb g + a0)), (1, .ref (zb g + a1)), (2, .int x35)]) [1, 2, 0] rfl ?_
          exact ih _ _ _ h kx
        · have h := e_x18.symm
          refine z_if_eqI C0 100 dX0_chart_93 (by decide) (fun c16 => ?_) (fun c16 => ?_)
          · have h := zif_t c16 h
            refine z_iconst (v := (0 : Int32)) C0 dX0_chart_100 (by decide) ?_
            refine z_sub (lo1 := [(0, .ref (zb g + a0)), (1, .ref (zb g + a1)), (2, .int y4), (3, .int x7), (4, .int x8)]) [0, 1, 2, 3, 4] rfl ?_
            obtain rfl := h
            exact k_J17
          · have h := zif_f (fun q => q c16) h
            refine z_iconst (v := (2 : Int32)) C0 dX0_chart_96 (by decide) ?_
            refine z_goto C0 101 dX0_chart_97 (by decide) ?_
            refine z_sub (lo1 := [(0, .ref (zb g + a0)), (1, .ref (zb g + a1)), (2, .int y4), (3, .int x7), (4, .int x8)]) [0, 1, 2, 3, 4] rfl ?_
            obtain rfl := h
            exact k_J17
      · have h := e_x13.symm
        refine z_if_eqI C0 72 dX0_chart_65 (by decide) (fun c11 => ?_) (fun c11 => ?_)
        · have h := zif_t c11 h
          refine z_iconst (v := (0 : Int32)) C0 dX0_chart_72 (by decide) ?_
          refine z_sub (lo1 := [(0, .ref (zb g + a0)), (1, .ref (zb g + a1)), (2, .int y4), (3, .int x7), (4, .int x8), (5, .int r10)]) [3, 4, 5, 2, 1, 0] rfl ?_
          obtain rfl := h
          exact k_J12
        · have h := zif_f (fun q => q c11) h
          refine z_iconst (v := (1 : Int32)) C0 dX0_chart_68 (by decide) ?_
          refine z_goto C0 73 dX0_chart_69 (by decide) ?_
          refine z_sub (lo1 := [(0, .ref (zb g + a0)), (1, .ref (zb g + a1)), (2, .int y4), (3, .int x7), (4, .int x8), (5, .int r10)]) [3, 4, 5, 2, 1, 0] rfl ?_
          obtain rfl := h
          exact k_J12
set_option maxHeartbeats 4000000 in
set_option maxRecDepth 100000 in
theorem r_X0_chart {l : Launch} {g : zL} {κ : zK} (a0 : Nat) (a1 : Nat) (μ : zM) (hT0 : zT zNN zσ1 a0 0) (hT1 : zT zNN zσ1 a1 1) (hSp : zSK g κ) {μr : zM} (h : f_X0_chart a0 a1 μ = some μr) : zMet l g yX0_chart cX0_chart 8 none 3 0 0 zNN zNN zσ1 zσ1 [.ref (zb g + a0), .ref (zb g + a1)] μ none μr := by
  refine zMet.of (by decide +kernel) (Nat.le_of_ble_eq_true rfl) ?_
  intro p e s m args below meth c C0
  have hF := hSp.at C0
  refine z_loc (lo1 := [(0, .ref (zb g + a0)), (1, .ref (zb g + a1))]) rfl ?_
  unfold f_X0_chart at h
  refine z_aload_n C0 dX0_chart_0 rfl 0 rfl ?_
  refine z_getr C0 hT0 kf_0_39 zr_0_7 zx_0 (zs_0_7 hT0).1 dX0_chart_1 ?_
  refine z_aload_n C0 dX0_chart_4 rfl 1 rfl ?_
  refine z_aload_n C0 dX0_chart_5 rfl 1 rfl ?_
  obtain ⟨μ1, e_μ1, h⟩ := zbd_of h
  refine z_callV (As := [.ref (zb g + a1), .ref (zb g + a1)]) (rest := []) C0 rfl kc_X4_launch km_RX0_91 (r_X4_launch (l := l) (g := g) (a0 + 8) a1 a1 μ (zs_0_7 hT0).2 hT1 hT1 e_μ1) (zs_0_7 hT0).2.1 (zs_0_7 hT0).2.2.2.1 rfl (by decide) rfl (Nat.le_of_ble_eq_true rfl) (Nat.le_of_ble_eq_true rfl) (Nat.le_of_ble_eq_true rfl) (Nat.le_of_ble_eq_true rfl) (Nat.le_refl _) rfl rfl dX0_chart_6 ?_
  refine z_iconst (v := (0 : Int32)) C0 dX0_chart_9 (by decide) ?_
  refine z_istore_n (lo1 := [(2, .int (0 : Int32)), (0, .ref (zb g + a0)), (1, .ref (zb g + a1))]) C0 dX0_chart_10 rfl (by decide) rfl ?_
  refine z_sub (lo1 := [(0, .ref (zb g + a0)), (1, .ref (zb g + a1)), (2, .int (0 : Int32))]) [1, 2, 0] rfl ?_
  obtain ⟨μ36, e_μ36, h⟩ := zbd_of h
  refine r_X0_chart_L11 C0 hSp a0 a1 hT0 hT1 zFU (0 : Int32) μ1 μ36 e_μ36 ?_
  have h := Option.some.inj h
  obtain rfl := h
  exact z_vret C0 rfl dX0_chart_198
def f_X0_driftOf (v0 : Int32) (v1 : Int32) : Int32 :=
  ((((v1 + (1 : Int32)) * (3 : Int32)) + v0) + (1 : Int32))
set_option maxHeartbeats 4000000 in
set_option maxRecDepth 100000 in
theorem r_X0_driftOf {l : Launch} {g : zL} (v0 : Int32) (v1 : Int32) {μ : zM}  {rv : Int32} (h : f_X0_driftOf v0 v1 = rv) : zMet l g yX0_driftOf cX0_driftOf 2 (some (.int)) 0 0 0 zNN zNN zσ1 zσ1 [.int v0, .int v1] μ (some (.int rv)) μ := by
  refine zMet.of (by decide +kernel) (Nat.le_of_ble_eq_true rfl) ?_
  intro p e s m args below meth c C0
  refine z_loc (lo1 := [(0, .int v0), (1, .int v1)]) rfl ?_
  unfold f_X0_driftOf at h
  refine z_iload_n C0 dX0_driftOf_0 rfl 1 rfl ?_
  refine z_iconst (v := (1 : Int32)) C0 dX0_driftOf_1 (by decide) ?_
  refine z_iadd C0 dX0_driftOf_2 ?_
  refine z_iconst (v := (3 : Int32)) C0 dX0_driftOf_3 (by decide) ?_
  refine z_imul C0 dX0_driftOf_4 ?_
  refine z_iload_n C0 dX0_driftOf_5 rfl 0 rfl ?_
  refine z_iadd C0 dX0_driftOf_6 ?_
  refine z_iconst (v := (1 : Int32)) C0 dX0_driftOf_7 (by decide) ?_
  refine z_iadd C0 dX0_driftOf_8 ?_
  skip
  obtain rfl := h
  exact z_iret C0 rfl dX0_driftOf_9
def f_X0_findLeans_L23 (a0 : Nat) (a1 : Nat) (v2 : Int32) (x1 : Int32) (x2 : Int32) : Nat → Int32 → Int32 → Option (Int32)
  | 0, _, _ => none
  | n + 1, y5, y6 =>
    if x1 ≤ y6 then
      some y5
    else
      zl (y5 * x2) fun x9 =>
      zl (y6 + (1 : Int32)) fun x10 =>
      f_X0_findLeans_L23 a0 a1 v2 x1 x2 n x9 x10
def f_X0_findLeans_L45 (a0 : Nat) (a1 : Nat) (v2 : Int32) (x1 : Int32) (x2 : Int32) (x11 : Int32) : Nat → Int32 → zM → Option (zM)
  | 0, _, _ => none
  | n + 1, y14, μ15 =>
    if (32 : Int32) ≤ y14 then
      some μ15
    else
      zg (zin ((v2 * (32 : Int32)) + y14) 64) <|
      zl (zup μ15 (a0 + 1) (((v2 * (32 : Int32)) + y14).toNatClampNeg) (0 : Int32)) fun μ18 =>
      zl (y14 + (1 : Int32)) fun x19 =>
      f_X0_findLeans_L45 a0 a1 v2 x1 x2 x11 n x19 μ18
def f_X0_findLeans_L102 (a0 : Nat) (a1 : Nat) (v2 : Int32) (x1 : Int32) (x2 : Int32) (x11 : Int32) (x21 : Int32) (y24 : Int32) (μ33 : zM) : Nat → Int32 → Int32 → Int32 → Int32 → Option (Int32 × Int32)
  | 0, _, _, _, _ => none
  | n + 1, y29, y30, y31, y32 =>
    if x1 ≤ y32 then
      some (y30, y31)
    else
      zg (znz x2) <|
      zl (y29 % x2) fun x36 =>
      zl (y29 / x2) fun x37 =>
      zbd2 (if x36 ≤ 0 then
          some (y30, y31)
        else
          zl (y30 ||| ((1 : Int32) <<< (y32 &&& 31))) fun x40 =>
          zbd (f_X6_number (a1 + 8) y32 (0 : Int32) μ33) fun r41 =>
          zl (y31 + (r41 * (((2 : Int32) * x36) - x2))) fun x42 =>
          some (x40, x42)) fun x43 x44 =>
      zl (y32 + (1 : Int32)) fun x45 =>
      f_X0_findLeans_L102 a0 a1 v2 x1 x2 x11 x21 y24 μ33 n x37 x43 x44 x45
def f_X0_findLeans_L81 (a0 : Nat) (a1 : Nat) (v2 : Int32) (x1 : Int32) (x2 : Int32) (x11 : Int32) (x21 : Int32) : Nat → Int32 → zM → Option (zM)
  | 0, _, _ => none
  | n + 1, y24, μ25 =>
    if x11 ≤ y24 then
      some μ25
    else
      zbd2 (f_X0_findLeans_L102 a0 a1 v2 x1 x2 x11 x21 y24 μ25 zFU y24 (0 : Int32) x21 (0 : Int32)) fun x46 x47 =>
      zg (zin ((v2 * (32 : Int32)) + (x46 % (32 : Int32))) 64) <|
      zl (zup μ25 (a0 + 1) (((v2 * (32 : Int32)) + (x46 % (32 : Int32))).toNatClampNeg) ((μ25 (a0 + 1) (((v2 * (32 : Int32)) + (x46 % (32 : Int32))).toNatClampNeg)) ||| ((1 : Int32) <<< (((f_X1_lean a1 x47 μ25) + (1 : Int32)) &&& 31)))) fun μ49 =>
      zl (y24 + (1 : Int32)) fun x50 =>
      f_X0_findLeans_L81 a0 a1 v2 x1 x2 x11 x21 n x50 μ49
def f_X0_findLeans (a0 : Nat) (a1 : Nat) (v2 : Int32) (μ : zM) : Option (zM) :=
  zl (μ (a1 + 8) 2) fun x1 =>
  zl ((f_X1_lines a1 v2 μ) + (1 : Int32)) fun x2 =>
  zbd (f_X0_findLeans_L23 a0 a1 v2 x1 x2 zFU (1 : Int32) (0 : Int32)) fun x11 =>
  zbd (f_X0_findLeans_L45 a0 a1 v2 x1 x2 x11 zFU (0 : Int32) μ) fun μ20 =>
  zl (f_X1_graveList a1 v2 μ20) fun x21 =>
  zbd (f_X0_findLeans_L81 a0 a1 v2 x1 x2 x11 x21 zFU (0 : Int32) μ20) fun μ51 =>
  some μ51
set_option maxHeartbeats 4000000 in
set_option maxRecDepth 100000 in
theorem r_X0_findLeans_L23 {l : Launch} {g : zL} {p : Program} {e : Env} {s : State} {m : MethodId} {args : Array Value} {below : List Frame} {meth : Method} {c : Code} {Q : State → Prop} (C0 : zC p s m args meth c g cX0_findLeans yX0_findLeans 13 none) (a0 : Nat) (a1 : Nat) (v2 : Int32) (x1 : Int32) (x2 : Int32) (μ7 : zM) (hU3 : zT zNN zσ1 a0 0) (hU4 : zT zNN zσ1 a1 1) : ∀ (n : Nat) (y5 : Int32) (y6 : Int32) (x11 : Int32), f_X0_findLeans_L23 a0 a1 v2 x1 x2 n y5 y6 = some x11 → Z p l e (zrm 2 0 0) s m args below meth c g Q 13 zNN 0 0 zσ1 μ7 42 [(0, .ref (zb g + a0)), (1, .ref (zb g + a1)), (2, .int v2), (3, .int x1), (4, .int x2), (5, .int x11)] [] → Z p l e (zrm 2 0 0) s m args below meth c g Q 13 zNN 0 0 zσ1 μ7 23 [(0, .ref (zb g + a0)), (1, .ref (zb g + a1)), (2, .int v2), (3, .int x1), (4, .int x2), (5, .int y5), (6, .int y6)] [] := by
  intro n
  induction n with
  | zero =>
    intro y5 y6 x11 h kx
    rw [f_X0_findLeans_L23] at h
    cases h
  | succ n ih =>
    intro y5 y6 x11 h kx
    rw [f_X0_findLeans_L23] at h
    refine z_iload C0 dX0_findLeans_23 6 rfl ?_
    refine z_iload_n C0 dX0_findLeans_25 rfl 3 rfl ?_
    refine z_icmp_ge C0 42 dX0_findLeans_26 (by decide) (fun c8 => ?_) (fun c8 => ?_)
    · have h := zif_t c8 h
      refine z_sub (lo1 := [(0, .ref (zb g + a0)), (1, .ref (zb g + a1)), (2, .int v2), (3, .int x1), (4, .int x2), (5, .int y5)]) [0, 1, 2, 3, 4, 5] rfl ?_
      obtain rfl := (Option.some.inj h)
      exact kx
    · have h := zif_f c8 h
      refine z_iload C0 dX0_findLeans_29 5 rfl ?_
      refine z_iload C0 dX0_findLeans_31 4 rfl ?_
      refine z_imul C0 dX0_findLeans_33 ?_
      obtain ⟨x9, e_x9, h⟩ := zl_of h
      refine z_nm e_x9 ?_
      refine z_istore (lo1 := [(5, .int x9), (0, .ref (zb g + a0)), (1, .ref (zb g + a1)), (2, .int v2), (3, .int x1), (4, .int x2), (6, .int y6)]) C0 dX0_findLeans_34 (by decide) rfl ?_
      obtain ⟨x10, e_x10, h⟩ := zl_of h
      refine z_iinc (lo1 := [(6, .int x10), (5, .int x9), (0, .ref (zb g + a0)), (1, .ref (zb g + a1)), (2, .int v2), (3, .int x1), (4, .int x2)]) C0 dX0_findLeans_36 6 rfl (by decide) e_x10.symm (by decide) rfl ?_
      refine z_goto C0 23 dX0_findLeans_39 (by decide) ?_
      refine z_sub (lo1 := [(0, .ref (zb g + a0)), (1, .ref (zb g + a1)), (2, .int v2), (3, .int x1), (4, .int x2), (5, .int x9), (6, .int x10)]) [2, 3, 4, 5, 6, 1, 0] rfl ?_
      exact ih _ _ _ h kx
set_option maxHeartbeats 4000000 in
set_option maxRecDepth 100000 in
theorem r_X0_findLeans_L45 {l : Launch} {g : zL} {p : Program} {e : Env} {s : State} {m : MethodId} {args : Array Value} {below : List Frame} {meth : Method} {c : Code} {Q : State → Prop} (C0 : zC p s m args meth c g cX0_findLeans yX0_findLeans 13 none) (a0 : Nat) (a1 : Nat) (v2 : Int32) (x1 : Int32) (x2 : Int32) (x11 : Int32) (hU12 : zT zNN zσ1 a0 0) (hU13 : zT zNN zσ1 a1 1) : ∀ (n : Nat) (y14 : Int32) (μ15 : zM) (μ20 : zM), f_X0_findLeans_L45 a0 a1 v2 x1 x2 x11 n y14 μ15 = some μ20 → Z p l e (zrm 2 0 0) s m args below meth c g Q 13 zNN 0 0 zσ1 μ20 71 [(0, .ref (zb g + a0)), (1, .ref (zb g + a1)), (2, .int v2), (3, .int x1), (4, .int x2), (5, .int x11)] [] → Z p l e (zrm 2 0 0) s m args below meth c g Q 13 zNN 0 0 zσ1 μ15 45 [(0, .ref (zb g + a0)), (1, .ref (zb g + a1)), (2, .int v2), (3, .int x1), (4, .int x2), (5, .int x11), (6, .int y14)] [] := by
  intro n
  induction n with
  | zero =>
    intro y14 μ15 μ20 h kx
    rw [f_X0_findLeans_L45] at h
    cases h
  | succ n ih =>
    intro y14 μ15 μ20 h kx
    rw [f_X0_findLeans_L45] at h
    refine z_iload C0 dX0_findLeans_45 6 rfl ?_
    refine z_bipush (v := (32 : Int32)) C0 dX0_findLeans_47 (by decide) ?_
    refine z_icmp_ge C0 71 dX0_findLeans_49 (by decide) (fun c16 => ?_) (fun c16 => ?_)
    · have h := zif_t c16 h
      refine z_sub (lo1 := [(0, .ref (zb g + a0)), (1, .ref (zb g + a1)), (2, .int v2), (3, .int x1), (4, .int x2), (5, .int x11)]) [0, 1, 2, 3, 4, 5] rfl ?_
      obtain rfl := (Option.some.inj h)
      exact kx
    · have h := zif_f c16 h
      refine z_aload_n C0 dX0_findLeans_52 rfl 0 rfl ?_
      refine z_getr C0 hU12 kf_0_11 zr_0_0 zx_0 (zs_0_0 hU12).1 dX0_findLeans_53 ?_
      refine z_iload_n C0 dX0_findLeans_56 rfl 2 rfl ?_
      refine z_bipush (v := (32 : Int32)) C0 dX0_findLeans_57 (by decide) ?_
      refine z_imul C0 dX0_findLeans_59 ?_
      refine z_iload C0 dX0_findLeans_60 6 rfl ?_
      refine z_iadd C0 dX0_findLeans_62 ?_
      refine z_iconst (v := (0 : Int32)) C0 dX0_findLeans_63 (by decide) ?_
      obtain ⟨g17, h⟩ := zg_of h
      obtain ⟨μ18, e_μ18, h⟩ := zl_of h
      refine z_iast C0 (zs_0_0 hU12).2 g17 rfl e_μ18 dX0_findLeans_64 ?_
      obtain ⟨x19, e_x19, h⟩ := zl_of h
      refine z_iinc (lo1 := [(6, .int x19), (0, .ref (zb g + a0)), (1, .ref (zb g + a1)), (2, .int v2), (3, .int x1), (4, .int x2), (5, .int x11)]) C0 dX0_findLeans_65 6 rfl (by decide) e_x19.symm (by decide) rfl ?_
      refine z_goto C0 45 dX0_findLeans_68 (by decide) ?_
      refine z_sub (lo1 := [(0, .ref (zb g + a0)), (1, .ref (zb g + a1)), (2, .int v2), (3, .int x1), (4, .int x2), (5, .int x11), (6, .int x19)]) [1, 2, 3, 4, 5, 6, 0] rfl ?_
      exact ih _ _ _ h kx
set_option maxHeartbeats 4000000 in
set_option maxRecDepth 100000 in
theorem r_X0_findLeans_L102 {l : Launch} {g : zL} {p : Program} {e : Env} {s : State} {m : MethodId} {args : Array Value} {below : List Frame} {meth : Method} {c : Code} {Q : State → Prop} (C0 : zC p s m args meth c g cX0_findLeans yX0_findLeans 13 none) (a0 : Nat) (a1 : Nat) (v2 : Int32) (x1 : Int32) (x2 : Int32) (x11 : Int32) (x21 : Int32) (y24 : Int32) (μ33 : zM) (hU27 : zT zNN zσ1 a0 0) (hU28 : zT zNN zσ1 a1 1) : ∀ (n : Nat) (y29 : Int32) (y30 : Int32) (y31 : Int32) (y32 : Int32) (x46 : Int32) (x47 : Int32), f_X0_findLeans_L102 a0 a1 v2 x1 x2 x11 x21 y24 μ33 n y29 y30 y31 y32 = some (x46, x47) → Z p l e (zrm 2 0 0) s m args below meth c g Q 13 zNN 0 0 zσ1 μ33 165 [(0, .ref (zb g + a0)), (1, .ref (zb g + a1)), (2, .int v2), (3, .int x1), (4, .int x2), (5, .int x11), (6, .int x21), (7, .int y24), (9, .int x46), (10, .int x47)] [] → Z p l e (zrm 2 0 0) s m args below meth c g Q 13 zNN 0 0 zσ1 μ33 102 [(0, .ref (zb g + a0)), (1, .ref (zb g + a1)), (2, .int v2), (3, .int x1), (4, .int x2), (5, .int x11), (6, .int x21), (7, .int y24), (8, .int y29), (9, .int y30), (10, .int y31), (11, .int y32)] [] := by
  intro n
  induction n with
  | zero =>
    intro y29 y30 y31 y32 x46 x47 h kx
    rw [f_X0_findLeans_L102] at h
    cases h
  | succ n ih =>
    intro y29 y30 y31 y32 x46 x47 h kx
    rw [f_X0_findLeans_L102] at h
    refine z_iload C0 dX0_findLeans_102 11 rfl ?_
    refine z_iload_n C0 dX0_findLeans_104 rfl 3 rfl ?_
    refine z_icmp_ge C0 165 dX0_findLeans_105 (by decide) (fun c34 => ?_) (fun c34 => ?_)
    · have h := zif_t c34 h
      refine z_sub (lo1 := [(0, .ref (zb g + a0)), (1, .ref (zb g + a1)), (2, .int v2), (3, .int x1), (4, .int x2), (5, .int x11), (6, .int x21), (7, .int y24), (9, .int y30), (10, .int y31)]) [0, 1, 2, 3, 4, 5, 6, 7, 9, 10] rfl ?_
      obtain ⟨rfl, rfl⟩ := Prod.mk.inj (Option.some.inj h)
      exact kx
    · have h := zif_f c34 h
      refine z_iload C0 dX0_findLeans_108 8 rfl ?_
      refine z_iload C0 dX0_findLeans_110 4 rfl ?_
      obtain ⟨g35, h⟩ := zg_of h
      refine z_irem C0 dX0_findLeans_112 g35 ?_
      obtain ⟨x36, e_x36, h⟩ := zl_of h
      refine z_nm e_x36 ?_
      refine z_istore (lo1 := [(12, .int x36), (0, .ref (zb g + a0)), (1, .ref (zb g + a1)), (2, .int v2), (3, .int x1), (4, .int x2), (5, .int x11), (6, .int x21), (7, .int y24), (8, .int y29), (9, .int y30), (10, .int y31), (11, .int y32)]) C0 dX0_findLeans_113 (by decide) rfl ?_
      refine z_iload C0 dX0_findLeans_115 9 rfl ?_
      refine z_iload C0 dX0_findLeans_117 5 rfl ?_
      refine z_idiv C0 dX0_findLeans_119 g35 ?_
      obtain ⟨x37, e_x37, h⟩ := zl_of h
      refine z_nm e_x37 ?_
      refine z_istore (lo1 := [(8, .int x37), (12, .int x36), (0, .ref (zb g + a0)), (1, .ref (zb g + a1)), (2, .int v2), (3, .int x1), (4, .int x2), (5, .int x11), (6, .int x21), (7, .int y24), (9, .int y30), (10, .int y31), (11, .int y32)]) C0 dX0_findLeans_120 (by decide) rfl ?_
      refine z_iload C0 dX0_findLeans_122 1 rfl ?_
      obtain ⟨x43, x44, e_x43, h⟩ := zbd2_of h
      refine z_join μ33 159 [(0, .ref (zb g + a0)), (1, .ref (zb g + a1)), (2, .int v2), (3, .int x1), (4, .int x2), (5, .int x11), (6, .int x21), (7, .int y24), (8, .int x37), (9, .int x43), (10, .int x44), (11, .int y32)] [] ?_ (fun k_J39 => ?_)
      · obtain ⟨x45, e_x45, h⟩ := zl_of h
        refine z_iinc (lo1 := [(11, .int x45), (0, .ref (zb g + a0)), (1, .ref (zb g + a1)), (2, .int v2), (3, .int x1), (4, .int x2), (5, .int x11), (6, .int x21), (7, .int y24), (8, .int x37), (9, .int x43), (10, .int x44)]) C0 dX0_findLeans_159 11 rfl (by decide) e_x45.symm (by decide) rfl ?_
        refine z_goto C0 102 dX0_findLeans_162 (by decide) ?_
        refine z_sub (lo1 := [(0, .ref (zb g + a0)), (1, .ref (zb g + a1)), (2, .int v2), (3, .int x1), (4, .int x2), (5, .int x11), (6, .int x21), (7, .int y24), (8, .int x37), (9, .int x43), (10, .int x44), (11, .int x45)]) [1, 2, 3, 4, 5, 6, 7, 8, 9, 10, 11, 0] rfl ?_
        exact ih _ _ _ _ _ _ h kx
      · have h := e_x43
        refine z_if_le C0 159 dX0_findLeans_124 (by decide) (fun c38 => ?_) (fun c38 => ?_)
        · have h := zif_t c38 h
          refine z_sub (lo1 := [(0, .ref (zb g + a0)), (1, .ref (zb g + a1)), (2, .int v2), (3, .int x1), (4, .int x2), (5, .int x11), (6, .int x21), (7, .int y24), (8, .int x37), (9, .int y30), (10, .int y31), (11, .int y32)]) [2, 3, 4, 5, 6, 7, 8, 9, 0, 10, 11, 12] rfl ?_
          obtain ⟨rfl, rfl⟩ := Prod.mk.inj (Option.some.inj h)
          exact k_J39
        · have h := zif_f c38 h
          refine z_iload C0 dX0_findLeans_127 10 rfl ?_
          refine z_iconst (v := (1 : Int32)) C0 dX0_findLeans_129 (by decide) ?_
          refine z_iload C0 dX0_findLeans_130 12 rfl ?_
          refine z_ishl C0 dX0_findLeans_132 ?_
          refine z_ior C0 dX0_findLeans_133 ?_
          obtain ⟨x40, e_x40, h⟩ := zl_of h
          refine z_nm e_x40 ?_
          refine z_istore (lo1 := [(9, .int x40), (8, .int x37), (12, .int x36), (0, .ref (zb g + a0)), (1, .ref (zb g + a1)), (2, .int v2), (3, .int x1), (4, .int x2), (5, .int x11), (6, .int x21), (7, .int y24), (10, .int y31), (11, .int y32)]) C0 dX0_findLeans_134 (by decide) rfl ?_
          refine z_iload C0 dX0_findLeans_136 11 rfl ?_
          refine z_aload_n C0 dX0_findLeans_138 rfl 4 rfl ?_
          refine z_getr C0 hU28 kf_0_50 zr_1_4 zx_1 (zs_1_4 hU28).1 dX0_findLeans_139 ?_
          refine z_iload C0 dX0_findLeans_142 12 rfl ?_
          refine z_iconst (v := (0 : Int32)) C0 dX0_findLeans_144 (by decide) ?_
          obtain ⟨r41, e_r41, h⟩ := zbd_of h
          refine z_callV (As := [.int y32, .int (0 : Int32)]) (rest := [.int y31]) C0 rfl kc_X6_number km_RX0_69 (r_X6_number (l := l) (g := g) (a1 + 8) y32 (0 : Int32) μ33 (zs_1_4 hU28).2 e_r41) (zs_1_4 hU28).2.1 (zs_1_4 hU28).2.2.2.1 rfl (by decide) rfl (Nat.le_of_ble_eq_true rfl) (Nat.le_of_ble_eq_true rfl) (Nat.le_of_ble_eq_true rfl) (Nat.le_of_ble_eq_true rfl) (Nat.le_refl _) rfl rfl dX0_findLeans_145 ?_
          refine z_iconst (v := (2 : Int32)) C0 dX0_findLeans_148 (by decide) ?_
          refine z_iload C0 dX0_findLeans_149 2 rfl ?_
          refine z_imul C0 dX0_findLeans_151 ?_
          refine z_iload C0 dX0_findLeans_152 7 rfl ?_
          refine z_isub C0 dX0_findLeans_154 ?_
          refine z_imul C0 dX0_findLeans_155 ?_
          refine z_iadd C0 dX0_findLeans_156 ?_
          obtain ⟨x42, e_x42, h⟩ := zl_of h
          refine z_nm e_x42 ?_
          refine z_istore (lo1 := [(10, .int x42), (9, .int x40), (8, .int x37), (12, .int x36), (0, .ref (zb g + a0)), (1, .ref (zb g + a1)), (2, .int v2), (3, .int x1), (4, .int x2), (5, .int x11), (6, .int x21), (7, .int y24), (11, .int y32)]) C0 dX0_findLeans_157 (by decide) rfl ?_
          refine z_sub (lo1 := [(0, .ref (zb g + a0)), (1, .ref (zb g + a1)), (2, .int v2), (3, .int x1), (4, .int x2), (5, .int x11), (6, .int x21), (7, .int y24), (8, .int x37), (9, .int x40), (10, .int x42), (11, .int y32)]) [4, 5, 6, 7, 8, 9, 10, 11, 2, 1, 0, 12] rfl ?_
          obtain ⟨rfl, rfl⟩ := Prod.mk.inj (Option.some.inj h)
          exact k_J39
set_option maxHeartbeats 4000000 in
set_option maxRecDepth 100000 in
theorem r_X0_findLeans_L81 {l : Launch} {g : zL} {p : Program} {e : Env} {s : State} {m : MethodId} {args : Array Value} {below : List Frame} {meth : Method} {c : Code} {Q : State → Prop} (C0 : zC p s m args meth c g cX0_findLeans yX0_findLeans 13 none) (a0 : Nat) (a1 : Nat) (v2 : Int32) (x1 : Int32) (x2 : Int32) (x11 : Int32) (x21 : Int32) (hU22 : zT zNN zσ1 a0 0) (hU23 : zT zNN zσ1 a1 1) : ∀ (n : Nat) (y24 : Int32) (μ25 : zM) (μ51 : zM), f_X0_findLeans_L81 a0 a1 v2 x1 x2 x11 x21 n y24 μ25 = some μ51 → Z p l e (zrm 2 0 0) s m args below meth c g Q 13 zNN 0 0 zσ1 μ51 199 [] [] → Z p l e (zrm 2 0 0) s m args below meth c g Q 13 zNN 0 0 zσ1 μ25 81 [(0, .ref (zb g + a0)), (1, .ref (zb g + a1)), (2, .int v2), (3, .int x1), (4, .int x2), (5, .int x11), (6, .int x21), (7, .int y24)] [] := by
  intro n
  induction n with
  | zero =>
    intro y24 μ25 μ51 h kx
    rw [f_X0_findLeans_L81] at h
    cases h
  | succ n ih =>
    intro y24 μ25 μ51 h kx
    rw [f_X0_findLeans_L81] at h
    refine z_iload C0 dX0_findLeans_81 7 rfl ?_
    refine z_iload C0 dX0_findLeans_83 5 rfl ?_
    refine z_icmp_ge C0 199 dX0_findLeans_85 (by decide) (fun c26 => ?_) (fun c26 => ?_)
    · have h := zif_t c26 h
      refine z_sub (lo1 := []) [] rfl ?_
      obtain rfl := (Option.some.inj h)
      exact kx
    · have h := zif_f c26 h
      refine z_iload C0 dX0_findLeans_88 7 rfl ?_
      refine z_istore (lo1 := [(8, .int y24), (0, .ref (zb g + a0)), (1, .ref (zb g + a1)), (2, .int v2), (3, .int x1), (4, .int x2), (5, .int x11), (6, .int x21), (7, .int y24)]) C0 dX0_findLeans_90 (by decide) rfl ?_
      refine z_iconst (v := (0 : Int32)) C0 dX0_findLeans_92 (by decide) ?_
      refine z_istore (lo1 := [(9, .int (0 : Int32)), (8, .int y24), (0, .ref (zb g + a0)), (1, .ref (zb g + a1)), (2, .int v2), (3, .int x1), (4, .int x2), (5, .int x11), (6, .int x21), (7, .int y24)]) C0 dX0_findLeans_93 (by decide) rfl ?_
      refine z_iload C0 dX0_findLeans_95 8 rfl ?_
      refine z_istore (lo1 := [(10, .int x21), (9, .int (0 : Int32)), (8, .int y24), (0, .ref (zb g + a0)), (1, .ref (zb g + a1)), (2, .int v2), (3, .int x1), (4, .int x2), (5, .int x11), (6, .int x21), (7, .int y24)]) C0 dX0_findLeans_97 (by decide) rfl ?_
      refine z_iconst (v := (0 : Int32)) C0 dX0_findLeans_99 (by decide) ?_
      refine z_istore (lo1 := [(11, .int (0 : Int32)), (10, .int x21), (9, .int (0 : Int32)), (8, .int y24), (0, .ref (zb g + a0)), (1, .ref (zb g + a1)), (2, .int v2), (3, .int x1), (4, .int x2), (5, .int x11), (6, .int x21), (7, .int y24)]) C0 dX0_findLeans_100 (by decide) rfl ?_
      refine z_sub (lo1 := [(0, .ref (zb g + a0)), (1, .ref (zb g + a1)), (2, .int v2), (3, .int x1), (4, .int x2), (5, .int x11), (6, .int x21), (7, .int y24), (8, .int y24), (9, .int (0 : Int32)), (10, .int x21), (11, .int (0 : Int32))]) [4, 5, 6, 7, 8, 9, 10, 11, 3, 2, 1, 0] rfl ?_
      obtain ⟨x46, x47, e_x46, h⟩ := zbd2_of h
      refine r_X0_findLeans_L102 C0 a0 a1 v2 x1 x2 x11 x21 y24 μ25 hU22 hU23 zFU y24 (0 : Int32) x21 (0 : Int32) x46 x47 e_x46 ?_
      refine z_aload_n C0 dX0_findLeans_165 rfl 0 rfl ?_
      refine z_getr C0 hU22 kf_0_11 zr_0_0 zx_0 (zs_0_0 hU22).1 dX0_findLeans_166 ?_
      refine z_iload_n C0 dX0_findLeans_169 rfl 2 rfl ?_
      refine z_bipush (v := (32 : Int32)) C0 dX0_findLeans_170 (by decide) ?_
      refine z_imul C0 dX0_findLeans_172 ?_
      refine z_iload C0 dX0_findLeans_173 8 rfl ?_
      refine z_bipush (v := (32 : Int32)) C0 dX0_findLeans_175 (by decide) ?_
      refine z_irem C0 dX0_findLeans_177 (by decide) ?_
      refine z_iadd C0 dX0_findLeans_178 ?_
      refine z_dup2 C0 dX0_findLeans_179 rfl rfl ?_
      obtain ⟨g48, h⟩ := zg_of h
      refine z_iald C0 (zs_0_0 hU22).2 g48 rfl dX0_findLeans_180 ?_
      refine z_iconst (v := (1 : Int32)) C0 dX0_findLeans_181 (by decide) ?_
      refine z_aload_n C0 dX0_findLeans_182 rfl 1 rfl ?_
      refine z_iload C0 dX0_findLeans_183 9 rfl ?_
      refine z_callV (As := [.int x47]) (rest := [.int (1 : Int32), .int (μ25 (a0 + 1) (((v2 * (32 : Int32)) + (x46 % (32 : Int32))).toNatClampNeg)), .int ((v2 * (32 : Int32)) + (x46 % (32 : Int32))), .ref (zb g + (a0 + 1))]) C0 rfl kc_X1_lean km_RX0_73 (r_X1_lean (l := l) (g := g) a1 x47 μ25 hU23 rfl) hU23.1 hU23.2.2.1 rfl (by decide) rfl (Nat.le_of_ble_eq_true rfl) (Nat.le_of_ble_eq_true rfl) (Nat.le_of_ble_eq_true rfl) (Nat.le_of_ble_eq_true rfl) (Nat.le_refl _) rfl rfl dX0_findLeans_185 ?_
      refine z_iconst (v := (1 : Int32)) C0 dX0_findLeans_188 (by decide) ?_
      refine z_iadd C0 dX0_findLeans_189 ?_
      refine z_ishl C0 dX0_findLeans_190 ?_
      refine z_ior C0 dX0_findLeans_191 ?_
      obtain ⟨μ49, e_μ49, h⟩ := zl_of h
      refine z_iast C0 (zs_0_0 hU22).2 g48 rfl e_μ49 dX0_findLeans_192 ?_
      obtain ⟨x50, e_x50, h⟩ := zl_of h
      refine z_iinc (lo1 := [(7, .int x50), (0, .ref (zb g + a0)), (1, .ref (zb g + a1)), (2, .int v2), (3, .int x1), (4, .int x2), (5, .int x11), (6, .int x21), (9, .int x46), (10, .int x47)]) C0 dX0_findLeans_193 7 rfl (by decide) e_x50.symm (by decide) rfl ?_
      refine z_goto C0 81 dX0_findLeans_196 (by decide) ?_
      refine z_sub (lo1 := [(0, .ref (zb g + a0)), (1, .ref (zb g + a1)), (2, .int v2), (3, .int x1), (4, .int x2), (5, .int x11), (6, .int x21), (7, .int x50)]) [1, 2, 3, 4, 5, 6, 7, 0] rfl ?_
      exact ih _ _ _ h kx
set_option maxHeartbeats 4000000 in
set_option maxRecDepth 100000 in
theorem r_X0_findLeans {l : Launch} {g : zL} (a0 : Nat) (a1 : Nat) (v2 : Int32) (μ : zM) (hT0 : zT zNN zσ1 a0 0) (hT1 : zT zNN zσ1 a1 1) {μr : zM} (h : f_X0_findLeans a0 a1 v2 μ = some μr) : zMet l g yX0_findLeans cX0_findLeans 13 none 2 0 0 zNN zNN zσ1 zσ1 [.ref (zb g + a0), .ref (zb g + a1), .int v2] μ none μr := by
  refine zMet.of (by decide +kernel) (Nat.le_of_ble_eq_true rfl) ?_
  intro p e s m args below meth c C0
  refine z_loc (lo1 := [(0, .ref (zb g + a0)), (1, .ref (zb g + a1)), (2, .int v2)]) rfl ?_
  unfold f_X0_findLeans at h
  refine z_aload_n C0 dX0_findLeans_0 rfl 1 rfl ?_
  refine z_getr C0 hT1 kf_0_50 zr_1_4 zx_1 (zs_1_4 hT1).1 dX0_findLeans_1 ?_
  refine z_geti C0 (zs_1_4 hT1).2.1 (zs_1_4 hT1).2.2.2.1 kf_0_56 zr_6_2 dX0_findLeans_4 ?_
  obtain ⟨x1, e_x1, h⟩ := zl_of h
  refine z_nm e_x1 ?_
  refine z_istore_n (lo1 := [(3, .int x1), (0, .ref (zb g + a0)), (1, .ref (zb g + a1)), (2, .int v2)]) C0 dX0_findLeans_7 rfl (by decide) rfl ?_
  refine z_aload_n C0 dX0_findLeans_8 rfl 2 rfl ?_
  refine z_iload_n C0 dX0_findLeans_9 rfl 3 rfl ?_
  refine z_callV (As := [.int v2]) (rest := []) C0 rfl kc_X1_lines km_RX0_62 (r_X1_lines (l := l) (g := g) a1 v2 μ hT1 rfl) hT1.1 hT1.2.2.1 rfl (by decide) rfl (Nat.le_of_ble_eq_true rfl) (Nat.le_of_ble_eq_true rfl) (Nat.le_of_ble_eq_true rfl) (Nat.le_of_ble_eq_true rfl) (Nat.le_refl _) rfl rfl dX0_findLeans_10 ?_
  refine z_iconst (v := (1 : Int32)) C0 dX0_findLeans_13 (by decide) ?_
  refine z_iadd C0 dX0_findLeans_14 ?_
  obtain ⟨x2, e_x2, h⟩ := zl_of h
  refine z_nm e_x2 ?_
  refine z_istore (lo1 := [(4, .int x2), (3, .int x1), (0, .ref (zb g + a0)), (1, .ref (zb g + a1)), (2, .int v2)]) C0 dX0_findLeans_15 (by decide) rfl ?_
  refine z_iconst (v := (1 : Int32)) C0 dX0_findLeans_17 (by decide) ?_
  refine z_istore (lo1 := [(5, .int (1 : Int32)), (4, .int x2), (3, .int x1), (0, .ref (zb g + a0)), (1, .ref (zb g + a1)), (2, .int v2)]) C0 dX0_findLeans_18 (by decide) rfl ?_
  refine z_iconst (v := (0 : Int32)) C0 dX0_findLeans_20 (by decide) ?_
  refine z_istore (lo1 := [(6, .int (0 : Int32)), (5, .int (1 : Int32)), (4, .int x2), (3, .int x1), (0, .ref (zb g + a0)), (1, .ref (zb g + a1)), (2, .int v2)]) C0 dX0_findLeans_21 (by decide) rfl ?_
  refine z_sub (lo1 := [(0, .ref (zb g + a0)), (1, .ref (zb g + a1)), (2, .int v2), (3, .int x1), (4, .int x2), (5, .int (1 : Int32)), (6, .int (0 : Int32))]) [4, 5, 6, 3, 2, 1, 0] rfl ?_
  obtain ⟨x11, e_x11, h⟩ := zbd_of h
  refine r_X0_findLeans_L23 C0 a0 a1 v2 x1 x2 μ hT0 hT1 zFU (1 : Int32) (0 : Int32) x11 e_x11 ?_
  refine z_iconst (v := (0 : Int32)) C0 dX0_findLeans_42 (by decide) ?_
  refine z_istore (lo1 := [(6, .int (0 : Int32)), (0, .ref (zb g + a0)), (1, .ref (zb g + a1)), (2, .int v2), (3, .int x1), (4, .int x2), (5, .int x11)]) C0 dX0_findLeans_43 (by decide) rfl ?_
  refine z_sub (lo1 := [(0, .ref (zb g + a0)), (1, .ref (zb g + a1)), (2, .int v2), (3, .int x1), (4, .int x2), (5, .int x11), (6, .int (0 : Int32))]) [1, 2, 3, 4, 5, 6, 0] rfl ?_
  obtain ⟨μ20, e_μ20, h⟩ := zbd_of h
  refine r_X0_findLeans_L45 C0 a0 a1 v2 x1 x2 x11 hT0 hT1 zFU (0 : Int32) μ μ20 e_μ20 ?_
  refine z_aload_n C0 dX0_findLeans_71 rfl 1 rfl ?_
  refine z_iload_n C0 dX0_findLeans_72 rfl 2 rfl ?_
  refine z_callV (As := [.int v2]) (rest := []) C0 rfl kc_X1_graveList km_RX0_66 (r_X1_graveList (l := l) (g := g) a1 v2 μ20 hT1 rfl) hT1.1 hT1.2.2.1 rfl (by decide) rfl (Nat.le_of_ble_eq_true rfl) (Nat.le_of_ble_eq_true rfl) (Nat.le_of_ble_eq_true rfl) (Nat.le_of_ble_eq_true rfl) (Nat.le_refl _) rfl rfl dX0_findLeans_73 ?_
  obtain ⟨x21, e_x21, h⟩ := zl_of h
  refine z_nm e_x21 ?_
  refine z_istore (lo1 := [(6, .int x21), (0, .ref (zb g + a0)), (1, .ref (zb g + a1)), (2, .int v2), (3, .int x1), (4, .int x2), (5, .int x11)]) C0 dX0_findLeans_76 (by decide) rfl ?_
  refine z_iconst (v := (0 : Int32)) C0 dX0_findLeans_78 (by decide) ?_
  refine z_istore (lo1 := [(7, .int (0 : Int32)), (6, .int x21), (0, .ref (zb g + a0)), (1, .ref (zb g + a1)), (2, .int v2), (3, .int x1), (4, .int x2), (5, .int x11)]) C0 dX0_findLeans_79 (by decide) rfl ?_
  refine z_sub (lo1 := [(0, .ref (zb g + a0)), (1, .ref (zb g + a1)), (2, .int v2), (3, .int x1), (4, .int x2), (5, .int x11), (6, .int x21), (7, .int (0 : Int32))]) [2, 3, 4, 5, 6, 7, 1, 0] rfl ?_
  obtain ⟨μ51, e_μ51, h⟩ := zbd_of h
  refine r_X0_findLeans_L81 C0 a0 a1 v2 x1 x2 x11 x21 hT0 hT1 zFU (0 : Int32) μ20 μ51 e_μ51 ?_
  have h := Option.some.inj h
  obtain rfl := h
  exact z_vret C0 rfl dX0_findLeans_199
def f_X0_startOf (a0 : Nat) (μ : zM) : Int32 :=
  (f_X0_cellOf (μ (a0 + 1) 4) (μ (a0 + 1) 5))
set_option maxHeartbeats 4000000 in
set_option maxRecDepth 100000 in
theorem r_X0_startOf {l : Launch} {g : zL} (a0 : Nat) (μ : zM) (hT0 : zT zNN zσ1 a0 1) {rv : Int32} (h : f_X0_startOf a0 μ = rv) : zMet l g yX0_startOf cX0_startOf 1 (some (.int)) 1 0 0 zNN zNN zσ1 zσ1 [.ref (zb g + a0)] μ (some (.int rv)) μ := by
  refine zMet.of (by decide +kernel) (Nat.le_of_ble_eq_true rfl) ?_
  intro p e s m args below meth c C0
  refine z_loc (lo1 := [(0, .ref (zb g + a0))]) rfl ?_
  unfold f_X0_startOf at h
  refine z_aload_n C0 dX0_startOf_0 rfl 0 rfl ?_
  refine z_getr C0 hT0 kf_0_102 zr_1_0 zx_1 (zs_1_0 hT0).1 dX0_startOf_1 ?_
  refine z_iconst (v := (4 : Int32)) C0 dX0_startOf_4 (by decide) ?_
  refine z_iald (j := 4) C0 (zs_1_0 hT0).2 (by decide : zin (4 : Int32) 11 = true) (by decide) dX0_startOf_5 ?_
  refine z_aload_n C0 dX0_startOf_6 rfl 0 rfl ?_
  refine z_getr C0 hT0 kf_0_102 zr_1_0 zx_1 (zs_1_0 hT0).1 dX0_startOf_7 ?_
  refine z_iconst (v := (5 : Int32)) C0 dX0_startOf_10 (by decide) ?_
  refine z_iald (j := 5) C0 (zs_1_0 hT0).2 (by decide : zin (5 : Int32) 11 = true) (by decide) dX0_startOf_11 ?_
  refine z_callS (As := [.int (μ (a0 + 1) 4), .int (μ (a0 + 1) 5)]) (rest := []) C0 rfl kc_X0_cellOf km_RX0_118 (r_X0_cellOf (l := l) (g := g) (μ := μ) (μ (a0 + 1) 4) (μ (a0 + 1) 5) rfl) rfl (Nat.le_of_ble_eq_true rfl) (Nat.le_of_ble_eq_true rfl) (Nat.le_of_ble_eq_true rfl) (Nat.le_of_ble_eq_true rfl) (Nat.le_refl _) rfl rfl dX0_startOf_12 ?_
  skip
  obtain rfl := h
  exact z_iret C0 rfl dX0_startOf_15
def f_X0_goOn_L10 (a0 : Nat) (v1 : Int32) (v2 : Int32) (x1 : Int32) : Nat → Int32 → Int32 → zM → Option (Int32 × zM)
  | 0, _, _, _ => none
  | n + 1, y3, y4, μ5 =>
    if (9 : Int32) ≤ y4 then
      some (y3, μ5)
    else
      zg (zin y4 9) <|
      zbd2 (if (μ5 (a0 + 2) (y4.toNatClampNeg)) = (-1 : Int32) then
          some (y3, μ5)
        else
          zg (zin ((x1 * (9 : Int32)) + y4) 1296) <|
          zl (μ5 (a0 + 3) (((x1 * (9 : Int32)) + y4).toNatClampNeg)) fun x15 =>
          zg (zin x15 144) <|
          zl ((x15 * (4 : Int32)) + ((v1 % (4 : Int32)) ||| (μ5 (a0 + 4) (x15.toNatClampNeg)))) fun x17 =>
          zg (zin v1 576) <|
          zl (if v2 = 0 then
              (μ5 (a0 + 2) (y4.toNatClampNeg))
            else
              (1 : Int32)) fun x21 =>
          zl ((μ5 (a0 + 5) (v1.toNatClampNeg)) + x21) fun x22 =>
          zg (zin x17 576) <|
          if (μ5 (a0 + 5) (x17.toNatClampNeg)) ≤ x22 then
            some (y3, μ5)
          else
            zl (zup μ5 (a0 + 5) (x17.toNatClampNeg) x22) fun μ25 =>
            some ((1 : Int32), μ25)) fun x26 μ27 =>
      zl (y4 + (1 : Int32)) fun x28 =>
      f_X0_goOn_L10 a0 v1 v2 x1 n x26 x28 μ27
def f_X0_goOn (a0 : Nat) (v1 : Int32) (v2 : Int32) (μ : zM) : Option (Int32 × zM) :=
  zl (v1 / (4 : Int32)) fun x1 =>
  zbd2 (f_X0_goOn_L10 a0 v1 v2 x1 zFU (0 : Int32) (0 : Int32) μ) fun x29 μ30 =>
  zg (z01 x29) <|
  some (x29, μ30)
set_option maxHeartbeats 4000000 in
set_option maxRecDepth 100000 in
theorem r_X0_goOn_L10 {l : Launch} {g : zL} {p : Program} {e : Env} {s : State} {m : MethodId} {args : Array Value} {below : List Frame} {meth : Method} {c : Code} {Q : State → Prop} (C0 : zC p s m args meth c g cX0_goOn yX0_goOn 9 (some (.boolean))) (a0 : Nat) (v1 : Int32) (v2 : Int32) (x1 : Int32) (hU2 : zT zNN zσ1 a0 0) : ∀ (n : Nat) (y3 : Int32) (y4 : Int32) (μ5 : zM) (x29 : Int32) (μ30 : zM), f_X0_goOn_L10 a0 v1 v2 x1 n y3 y4 μ5 = some (x29, μ30) → Z p l e (zrm 0 0 0) s m args below meth c g Q 9 zNN 0 0 zσ1 μ30 114 [(4, .int x29)] [] → Z p l e (zrm 0 0 0) s m args below meth c g Q 9 zNN 0 0 zσ1 μ5 10 [(0, .ref (zb g + a0)), (1, .int v1), (2, .int v2), (3, .int x1), (4, .int y3), (5, .int y4)] [] := by
  intro n
  induction n with
  | zero =>
    intro y3 y4 μ5 x29 μ30 h kx
    rw [f_X0_goOn_L10] at h
    cases h
  | succ n ih =>
    intro y3 y4 μ5 x29 μ30 h kx
    rw [f_X0_goOn_L10] at h
    refine z_iload C0 dX0_goOn_10 5 rfl ?_
    refine z_bipush (v := (9 : Int32)) C0 dX0_goOn_12 (by decide) ?_
    refine z_icmp_ge C0 114 dX0_goOn_14 (by decide) (fun c6 => ?_) (fun c6 => ?_)
    · have h := zif_t c6 h
      refine z_sub (lo1 := [(4, .int y3)]) [4] rfl ?_
      obtain ⟨rfl, rfl⟩ := Prod.mk.inj (Option.some.inj h)
      exact kx
    · have h := zif_f c6 h
      refine z_aload_n C0 dX0_goOn_17 rfl 0 rfl ?_
      refine z_getr C0 hU2 kf_0_15 zr_0_1 zx_0 (zs_0_1 hU2).1 dX0_goOn_18 ?_
      refine z_iload C0 dX0_goOn_21 5 rfl ?_
      obtain ⟨g11, h⟩ := zg_of h
      refine z_iald C0 (zs_0_1 hU2).2 g11 rfl dX0_goOn_23 ?_
      refine z_iconst (v := (-1 : Int32)) C0 dX0_goOn_24 (by decide) ?_
      obtain ⟨x26, μ27, e_x26, h⟩ := zbd2_of h
      refine z_join μ27 108 [(0, .ref (zb g + a0)), (1, .int v1), (2, .int v2), (3, .int x1), (4, .int x26), (5, .int y4)] [] ?_ (fun k_J13 => ?_)
      · obtain ⟨x28, e_x28, h⟩ := zl_of h
        refine z_iinc (lo1 := [(5, .int x28), (0, .ref (zb g + a0)), (1, .int v1), (2, .int v2), (3, .int x1), (4, .int x26)]) C0 dX0_goOn_108 5 rfl (by decide) e_x28.symm (by decide) rfl ?_
        refine z_goto C0 10 dX0_goOn_111 (by decide) ?_
        refine z_sub (lo1 := [(0, .ref (zb g + a0)), (1, .int v1), (2, .int v2), (3, .int x1), (4, .int x26), (5, .int x28)]) [1, 2, 3, 4, 5, 0] rfl ?_
        exact ih _ _ _ _ _ h kx
      · have h := e_x26
        refine z_icmp_eq C0 108 dX0_goOn_25 (by decide) (fun c12 => ?_) (fun c12 => ?_)
        · have h := zif_t c12 h
          obtain ⟨rfl, rfl⟩ := Prod.mk.inj (Option.some.inj h)
          exact k_J13
        · have h := zif_f c12 h
          refine z_aload_n C0 dX0_goOn_28 rfl 0 rfl ?_
          refine z_getr C0 hU2 kf_0_18 zr_0_2 zx_0 (zs_0_2 hU2).1 dX0_goOn_29 ?_
          refine z_iload_n C0 dX0_goOn_32 rfl 3 rfl ?_
          refine z_bipush (v := (9 : Int32)) C0 dX0_goOn_33 (by decide) ?_
          refine z_imul C0 dX0_goOn_35 ?_
          refine z_iload C0 dX0_goOn_36 5 rfl ?_
          refine z_iadd C0 dX0_goOn_38 ?_
          obtain ⟨g14, h⟩ := zg_of h
          refine z_iald C0 (zs_0_2 hU2).2 g14 rfl dX0_goOn_39 ?_
          obtain ⟨x15, e_x15, h⟩ := zl_of h
          refine z_nm e_x15 ?_
          refine z_istore (lo1 := [(6, .int x15), (0, .ref (zb g + a0)), (1, .int v1), (2, .int v2), (3, .int x1), (4, .int y3), (5, .int y4)]) C0 dX0_goOn_40 (by decide) rfl ?_
          refine z_iload C0 dX0_goOn_42 0 rfl ?_
          refine z_iconst (v := (4 : Int32)) C0 dX0_goOn_44 (by decide) ?_
          refine z_imul C0 dX0_goOn_45 ?_
          refine z_iload_n C0 dX0_goOn_46 rfl 2 rfl ?_
          refine z_iconst (v := (4 : Int32)) C0 dX0_goOn_47 (by decide) ?_
          refine z_irem C0 dX0_goOn_48 (by decide) ?_
          refine z_aload_n C0 dX0_goOn_49 rfl 1 rfl ?_
          refine z_getr C0 hU2 kf_0_21 zr_0_3 zx_0 (zs_0_3 hU2).1 dX0_goOn_50 ?_
          refine z_iload C0 dX0_goOn_53 0 rfl ?_
          obtain ⟨g16, h⟩ := zg_of h
          refine z_iald C0 (zs_0_3 hU2).2 g16 rfl dX0_goOn_55 ?_
          refine z_ior C0 dX0_goOn_56 ?_
          refine z_iadd C0 dX0_goOn_57 ?_
          obtain ⟨x17, e_x17, h⟩ := zl_of h
          refine z_nm e_x17 ?_
          refine z_istore (lo1 := [(7, .int x17), (6, .int x15), (0, .ref (zb g + a0)), (1, .int v1), (2, .int v2), (3, .int x1), (4, .int y3), (5, .int y4)]) C0 dX0_goOn_58 (by decide) rfl ?_
          refine z_aload_n C0 dX0_goOn_60 rfl 2 rfl ?_
          refine z_getr C0 hU2 kf_0_24 zr_0_4 zx_0 (zs_0_4 hU2).1 dX0_goOn_61 ?_
          refine z_iload_n C0 dX0_goOn_64 rfl 3 rfl ?_
          obtain ⟨g18, h⟩ := zg_of h
          refine z_iald C0 (zs_0_4 hU2).2 g18 rfl dX0_goOn_65 ?_
          refine z_iload_n C0 dX0_goOn_66 rfl 4 rfl ?_
          obtain ⟨x21, e_x21, h⟩ := zl_of h
          refine z_join μ5 81 [(0, .ref (zb g + a0)), (1, .int v1), (2, .int v2), (3, .int x1), (4, .int y3), (5, .int y4), (7, .int x17)] [.int x21, .int (μ5 (a0 + 5) (v1.toNatClampNeg))] ?_ (fun k_J20 => ?_)
          · refine z_iadd C0 dX0_goOn_81 ?_
            obtain ⟨x22, e_x22, h⟩ := zl_of h
            refine z_nm e_x22 ?_
            refine z_istore (lo1 := [(8, .int x22), (0, .ref (zb g + a0)), (1, .int v1), (2, .int v2), (3, .int x1), (4, .int y3), (5, .int y4), (7, .int x17)]) C0 dX0_goOn_82 (by decide) rfl ?_
            refine z_iload C0 dX0_goOn_84 0 rfl ?_
            refine z_aload_n C0 dX0_goOn_86 rfl 1 rfl ?_
            refine z_getr C0 hU2 kf_0_24 zr_0_4 zx_0 (zs_0_4 hU2).1 dX0_goOn_87 ?_
            refine z_iload C0 dX0_goOn_90 7 rfl ?_
            obtain ⟨g23, h⟩ := zg_of h
            refine z_iald C0 (zs_0_4 hU2).2 g23 rfl dX0_goOn_92 ?_
            refine z_icmp_ge C0 108 dX0_goOn_93 (by decide) (fun c24 => ?_) (fun c24 => ?_)
            · have h := zif_t c24 h
              refine z_sub (lo1 := [(0, .ref (zb g + a0)), (1, .int v1), (2, .int v2), (3, .int x1), (4, .int y3), (5, .int y4)]) [1, 2, 3, 4, 5, 6] rfl ?_
              obtain ⟨rfl, rfl⟩ := Prod.mk.inj (Option.some.inj h)
              exact k_J13
            · have h := zif_f c24 h
              refine z_aload_n C0 dX0_goOn_96 rfl 1 rfl ?_
              refine z_getr C0 hU2 kf_0_24 zr_0_4 zx_0 (zs_0_4 hU2).1 dX0_goOn_97 ?_
              refine z_iload C0 dX0_goOn_100 7 rfl ?_
              refine z_iload C0 dX0_goOn_102 0 rfl ?_
              obtain ⟨μ25, e_μ25, h⟩ := zl_of h
              refine z_iast C0 (zs_0_4 hU2).2 g23 rfl e_μ25 dX0_goOn_104 ?_
              refine z_iconst (v := (1 : Int32)) C0 dX0_goOn_105 (by decide) ?_
              refine z_istore (lo1 := [(4, .int (1 : Int32)), (8, .int x22), (0, .ref (zb g + a0)), (1, .int v1), (2, .int v2), (3, .int x1), (5, .int y4), (7, .int x17)]) C0 dX0_goOn_106 (by decide) rfl ?_
              refine z_sub (lo1 := [(0, .ref (zb g + a0)), (1, .int v1), (2, .int v2), (3, .int x1), (4, .int (1 : Int32)), (5, .int y4)]) [2, 3, 4, 5, 0, 6] rfl ?_
              obtain ⟨rfl, rfl⟩ := Prod.mk.inj (Option.some.inj h)
              exact k_J13
          · have h := e_x21.symm
            refine z_if_eq C0 74 dX0_goOn_67 (by decide) (fun c19 => ?_) (fun c19 => ?_)
            · have h := zif_t c19 h
              refine z_aload_n C0 dX0_goOn_74 rfl 2 rfl ?_
              refine z_getr C0 hU2 kf_0_15 zr_0_1 zx_0 (zs_0_1 hU2).1 dX0_goOn_75 ?_
              refine z_iload C0 dX0_goOn_78 7 rfl ?_
              refine z_iald C0 (zs_0_1 hU2).2 g11 rfl dX0_goOn_80 ?_
              refine z_sub (lo1 := [(0, .ref (zb g + a0)), (1, .int v1), (2, .int v2), (3, .int x1), (4, .int y3), (5, .int y4), (7, .int x17)]) [2, 3, 4, 5, 6, 7, 0] rfl ?_
              obtain rfl := h
              exact k_J20
            · have h := zif_f c19 h
              refine z_iconst (v := (1 : Int32)) C0 dX0_goOn_70 (by decide) ?_
              refine z_goto C0 81 dX0_goOn_71 (by decide) ?_
              refine z_sub (lo1 := [(0, .ref (zb g + a0)), (1, .int v1), (2, .int v2), (3, .int x1), (4, .int y3), (5, .int y4), (7, .int x17)]) [2, 3, 4, 5, 6, 7, 0] rfl ?_
              obtain rfl := h
              exact k_J20
set_option maxHeartbeats 4000000 in
set_option maxRecDepth 100000 in
theorem r_X0_goOn {l : Launch} {g : zL} (a0 : Nat) (v1 : Int32) (v2 : Int32) (μ : zM) (hT0 : zT zNN zσ1 a0 0) {rv : Int32} {μr : zM} (h : f_X0_goOn a0 v1 v2 μ = some (rv, μr)) : zMet l g yX0_goOn cX0_goOn 9 (some (.boolean)) 0 0 0 zNN zNN zσ1 zσ1 [.ref (zb g + a0), .int v1, .int v2] μ (some (.int rv)) μr := by
  refine zMet.of (by decide +kernel) (Nat.le_of_ble_eq_true rfl) ?_
  intro p e s m args below meth c C0
  refine z_loc (lo1 := [(0, .ref (zb g + a0)), (1, .int v1), (2, .int v2)]) rfl ?_
  unfold f_X0_goOn at h
  refine z_iload_n C0 dX0_goOn_0 rfl 1 rfl ?_
  refine z_iconst (v := (4 : Int32)) C0 dX0_goOn_1 (by decide) ?_
  refine z_idiv C0 dX0_goOn_2 (by decide) ?_
  obtain ⟨x1, e_x1, h⟩ := zl_of h
  refine z_nm e_x1 ?_
  refine z_istore_n (lo1 := [(3, .int x1), (0, .ref (zb g + a0)), (1, .int v1), (2, .int v2)]) C0 dX0_goOn_3 rfl (by decide) rfl ?_
  refine z_iconst (v := (0 : Int32)) C0 dX0_goOn_4 (by decide) ?_
  refine z_istore (lo1 := [(4, .int (0 : Int32)), (3, .int x1), (0, .ref (zb g + a0)), (1, .int v1), (2, .int v2)]) C0 dX0_goOn_5 (by decide) rfl ?_
  refine z_iconst (v := (0 : Int32)) C0 dX0_goOn_7 (by decide) ?_
  refine z_istore (lo1 := [(5, .int (0 : Int32)), (4, .int (0 : Int32)), (3, .int x1), (0, .ref (zb g + a0)), (1, .int v1), (2, .int v2)]) C0 dX0_goOn_8 (by decide) rfl ?_
  refine z_sub (lo1 := [(0, .ref (zb g + a0)), (1, .int v1), (2, .int v2), (3, .int x1), (4, .int (0 : Int32)), (5, .int (0 : Int32))]) [3, 4, 5, 2, 1, 0] rfl ?_
  obtain ⟨x29, μ30, e_x29, h⟩ := zbd2_of h
  refine r_X0_goOn_L10 C0 a0 v1 v2 x1 hT0 zFU (0 : Int32) (0 : Int32) μ x29 μ30 e_x29 ?_
  refine z_iload C0 dX0_goOn_114 0 rfl ?_
  obtain ⟨g31, h⟩ := zg_of h
  have h := Option.some.inj h
  obtain ⟨rfl, rfl⟩ := Prod.mk.inj h
  exact z_zret C0 rfl g31 dX0_goOn_116
def f_X0_findLeast_L2 (a0 : Nat) (a1 : Nat) (v2 : Int32) : Nat → Int32 → zM → Option (zM)
  | 0, _, _ => none
  | n + 1, y3, μ4 =>
    if (576 : Int32) ≤ y3 then
      some μ4
    else
      zg (zin y3 576) <|
      zl (zup μ4 (a0 + 5) (y3.toNatClampNeg) (1000000 : Int32)) fun μ7 =>
      zl (y3 + (1 : Int32)) fun x8 =>
      f_X0_findLeast_L2 a0 a1 v2 n x8 μ7
def f_X0_findLeast_L69 (a0 : Nat) (v2 : Int32) (y16 : Int32) : Nat → Int32 → Int32 → zM → Option (Int32 × zM)
  | 0, _, _, _ => none
  | n + 1, y21, y22, μ23 =>
    if (576 : Int32) ≤ y22 then
      some (y21, μ23)
    else
      zg (zin y22 576) <|
      zbd2 (if (μ23 (a0 + 5) (y22.toNatClampNeg)) = (1000000 : Int32) then
          some (y21, μ23)
        else
          zbd2 (f_X0_goOn a0 y22 v2 μ23) fun r32 μ33 =>
          zl (y21 ||| r32) fun x34 =>
          some (x34, μ33)) fun x35 μ36 =>
      zl (y22 + (1 : Int32)) fun x37 =>
      f_X0_findLeast_L69 a0 v2 y16 n x35 x37 μ36
def f_X0_findLeast_L50 (a0 : Nat) (v2 : Int32) : Nat → Int32 → Int32 → zM → Option (zM)
  | 0, _, _, _ => none
  | n + 1, y15, y16, μ17 =>
    if (¬ ((576 : Int32) < y16)) ∧ (¬ (y15 = 0)) then
      zbd2 (f_X0_findLeast_L69 a0 v2 y16 zFU (0 : Int32) (0 : Int32) μ17) fun x38 μ39 =>
      zl (y16 + (1 : Int32)) fun x40 =>
      f_X0_findLeast_L50 a0 v2 n x38 x40 μ39
    else
      some μ17
def f_X0_findLeast (a0 : Nat) (a1 : Nat) (v2 : Int32) (μ : zM) : Option (zM) :=
  zbd (f_X0_findLeast_L2 a0 a1 v2 zFU (0 : Int32) μ) fun μ9 =>
  zl (f_X0_startOf a1 μ9) fun x10 =>
  zg (zin x10 144) <|
  zg (zin ((x10 * (4 : Int32)) + (μ9 (a0 + 4) (x10.toNatClampNeg))) 576) <|
  zl (zup μ9 (a0 + 5) (((x10 * (4 : Int32)) + (μ9 (a0 + 4) (x10.toNatClampNeg))).toNatClampNeg) (0 : Int32)) fun μ13 =>
  zbd (f_X0_findLeast_L50 a0 v2 zFU (1 : Int32) (0 : Int32) μ13) fun μ41 =>
  some μ41
set_option maxHeartbeats 4000000 in
set_option maxRecDepth 100000 in
theorem r_X0_findLeast_L2 {l : Launch} {g : zL} {p : Program} {e : Env} {s : State} {m : MethodId} {args : Array Value} {below : List Frame} {meth : Method} {c : Code} {Q : State → Prop} (C0 : zC p s m args meth c g cX0_findLeast yX0_findLeast 7 none) (a0 : Nat) (a1 : Nat) (v2 : Int32) (hU1 : zT zNN zσ1 a0 0) (hU2 : zT zNN zσ1 a1 1) : ∀ (n : Nat) (y3 : Int32) (μ4 : zM) (μ9 : zM), f_X0_findLeast_L2 a0 a1 v2 n y3 μ4 = some μ9 → Z p l e (zrm 2 0 0) s m args below meth c g Q 7 zNN 0 0 zσ1 μ9 23 [(0, .ref (zb g + a0)), (1, .ref (zb g + a1)), (2, .int v2)] [] → Z p l e (zrm 2 0 0) s m args below meth c g Q 7 zNN 0 0 zσ1 μ4 2 [(0, .ref (zb g + a0)), (1, .ref (zb g + a1)), (2, .int v2), (3, .int y3)] [] := by
  intro n
  induction n with
  | zero =>
    intro y3 μ4 μ9 h kx
    rw [f_X0_findLeast_L2] at h
    cases h
  | succ n ih =>
    intro y3 μ4 μ9 h kx
    rw [f_X0_findLeast_L2] at h
    refine z_iload_n C0 dX0_findLeast_2 rfl 3 rfl ?_
    refine z_sipush (v := (576 : Int32)) C0 dX0_findLeast_3 (by decide) ?_
    refine z_icmp_ge C0 23 dX0_findLeast_6 (by decide) (fun c5 => ?_) (fun c5 => ?_)
    · have h := zif_t c5 h
      refine z_sub (lo1 := [(0, .ref (zb g + a0)), (1, .ref (zb g + a1)), (2, .int v2)]) [0, 1, 2] rfl ?_
      obtain rfl := (Option.some.inj h)
      exact kx
    · have h := zif_f c5 h
      refine z_aload_n C0 dX0_findLeast_9 rfl 0 rfl ?_
      refine z_getr C0 hU1 kf_0_24 zr_0_4 zx_0 (zs_0_4 hU1).1 dX0_findLeast_10 ?_
      refine z_iload_n C0 dX0_findLeast_13 rfl 3 rfl ?_
      refine z_ldc C0 dX0_findLeast_14 kk_RX0_131 ?_
      obtain ⟨g6, h⟩ := zg_of h
      obtain ⟨μ7, e_μ7, h⟩ := zl_of h
      refine z_iast C0 (zs_0_4 hU1).2 g6 rfl e_μ7 dX0_findLeast_16 ?_
      obtain ⟨x8, e_x8, h⟩ := zl_of h
      refine z_iinc (lo1 := [(3, .int x8), (0, .ref (zb g + a0)), (1, .ref (zb g + a1)), (2, .int v2)]) C0 dX0_findLeast_17 3 rfl (by decide) e_x8.symm (by decide) rfl ?_
      refine z_goto C0 2 dX0_findLeast_20 (by decide) ?_
      refine z_sub (lo1 := [(0, .ref (zb g + a0)), (1, .ref (zb g + a1)), (2, .int v2), (3, .int x8)]) [1, 2, 3, 0] rfl ?_
      exact ih _ _ _ h kx
set_option maxHeartbeats 4000000 in
set_option maxRecDepth 100000 in
theorem r_X0_findLeast_L69 {l : Launch} {g : zL} {p : Program} {e : Env} {s : State} {m : MethodId} {args : Array Value} {below : List Frame} {meth : Method} {c : Code} {Q : State → Prop} (C0 : zC p s m args meth c g cX0_findLeast yX0_findLeast 7 none) (a0 : Nat) (v2 : Int32) (y16 : Int32) (hU20 : zT zNN zσ1 a0 0) : ∀ (n : Nat) (y21 : Int32) (y22 : Int32) (μ23 : zM) (x38 : Int32) (μ39 : zM), f_X0_findLeast_L69 a0 v2 y16 n y21 y22 μ23 = some (x38, μ39) → Z p l e (zrm 2 0 0) s m args below meth c g Q 7 zNN 0 0 zσ1 μ39 107 [(0, .ref (zb g + a0)), (2, .int v2), (4, .int x38), (5, .int y16)] [] → Z p l e (zrm 2 0 0) s m args below meth c g Q 7 zNN 0 0 zσ1 μ23 69 [(0, .ref (zb g + a0)), (2, .int v2), (4, .int y21), (5, .int y16), (6, .int y22)] [] := by
  intro n
  induction n with
  | zero =>
    intro y21 y22 μ23 x38 μ39 h kx
    rw [f_X0_findLeast_L69] at h
    cases h
  | succ n ih =>
    intro y21 y22 μ23 x38 μ39 h kx
    rw [f_X0_findLeast_L69] at h
    refine z_iload C0 dX0_findLeast_69 4 rfl ?_
    refine z_sipush (v := (576 : Int32)) C0 dX0_findLeast_71 (by decide) ?_
    refine z_icmp_ge C0 107 dX0_findLeast_74 (by decide) (fun c24 => ?_) (fun c24 => ?_)
    · have h := zif_t c24 h
      refine z_sub (lo1 := [(0, .ref (zb g + a0)), (2, .int v2), (4, .int y21), (5, .int y16)]) [0, 1, 2, 3] rfl ?_
      obtain ⟨rfl, rfl⟩ := Prod.mk.inj (Option.some.inj h)
      exact kx
    · have h := zif_f c24 h
      refine z_aload_n C0 dX0_findLeast_77 rfl 0 rfl ?_
      refine z_getr C0 hU20 kf_0_24 zr_0_4 zx_0 (zs_0_4 hU20).1 dX0_findLeast_78 ?_
      refine z_iload C0 dX0_findLeast_81 4 rfl ?_
      obtain ⟨g29, h⟩ := zg_of h
      refine z_iald C0 (zs_0_4 hU20).2 g29 rfl dX0_findLeast_83 ?_
      refine z_ldc C0 dX0_findLeast_84 kk_RX0_131 ?_
      obtain ⟨x35, μ36, e_x35, h⟩ := zbd2_of h
      refine z_join μ36 101 [(0, .ref (zb g + a0)), (2, .int v2), (4, .int x35), (5, .int y16), (6, .int y22)] [] ?_ (fun k_J31 => ?_)
      · obtain ⟨x37, e_x37, h⟩ := zl_of h
        refine z_iinc (lo1 := [(6, .int x37), (0, .ref (zb g + a0)), (2, .int v2), (4, .int x35), (5, .int y16)]) C0 dX0_findLeast_101 4 rfl (by decide) e_x37.symm (by decide) rfl ?_
        refine z_goto C0 69 dX0_findLeast_104 (by decide) ?_
        refine z_sub (lo1 := [(0, .ref (zb g + a0)), (2, .int v2), (4, .int x35), (5, .int y16), (6, .int x37)]) [1, 2, 3, 4, 0] rfl ?_
        exact ih _ _ _ _ _ h kx
      · have h := e_x35
        refine z_icmp_eq C0 101 dX0_findLeast_86 (by decide) (fun c30 => ?_) (fun c30 => ?_)
        · have h := zif_t c30 h
          obtain ⟨rfl, rfl⟩ := Prod.mk.inj (Option.some.inj h)
          exact k_J31
        · have h := zif_f c30 h
          refine z_iload C0 dX0_findLeast_89 2 rfl ?_
          refine z_aload_n C0 dX0_findLeast_91 rfl 0 rfl ?_
          refine z_iload C0 dX0_findLeast_92 4 rfl ?_
          refine z_iload_n C0 dX0_findLeast_94 rfl 1 rfl ?_
          obtain ⟨r32, μ33, e_r32, h⟩ := zbd2_of h
          refine z_callV (As := [.int y22, .int v2]) (rest := [.int y21]) C0 rfl kc_X0_goOn km_RX0_132 (r_X0_goOn (l := l) (g := g) a0 y22 v2 μ23 hU20 e_r32) hU20.1 hU20.2.2.1 rfl (by decide) rfl (Nat.le_of_ble_eq_true rfl) (Nat.le_of_ble_eq_true rfl) (Nat.le_of_ble_eq_true rfl) (Nat.le_of_ble_eq_true rfl) (Nat.le_refl _) rfl rfl dX0_findLeast_95 ?_
          refine z_ior C0 dX0_findLeast_98 ?_
          obtain ⟨x34, e_x34, h⟩ := zl_of h
          refine z_nm e_x34 ?_
          refine z_istore (lo1 := [(4, .int x34), (0, .ref (zb g + a0)), (2, .int v2), (5, .int y16), (6, .int y22)]) C0 dX0_findLeast_99 (by decide) rfl ?_
          refine z_sub (lo1 := [(0, .ref (zb g + a0)), (2, .int v2), (4, .int x34), (5, .int y16), (6, .int y22)]) [1, 2, 0, 3, 4] rfl ?_
          obtain ⟨rfl, rfl⟩ := Prod.mk.inj (Option.some.inj h)
          exact k_J31
set_option maxHeartbeats 4000000 in
set_option maxRecDepth 100000 in
theorem r_X0_findLeast_L50 {l : Launch} {g : zL} {p : Program} {e : Env} {s : State} {m : MethodId} {args : Array Value} {below : List Frame} {meth : Method} {c : Code} {Q : State → Prop} (C0 : zC p s m args meth c g cX0_findLeast yX0_findLeast 7 none) (a0 : Nat) (v2 : Int32) (hU14 : zT zNN zσ1 a0 0) : ∀ (n : Nat) (y15 : Int32) (y16 : Int32) (μ17 : zM) (μ41 : zM), f_X0_findLeast_L50 a0 v2 n y15 y16 μ17 = some μ41 → Z p l e (zrm 2 0 0) s m args below meth c g Q 7 zNN 0 0 zσ1 μ41 113 [] [] → Z p l e (zrm 2 0 0) s m args below meth c g Q 7 zNN 0 0 zσ1 μ17 50 [(0, .ref (zb g + a0)), (2, .int v2), (4, .int y15), (5, .int y16)] [] := by
  intro n
  induction n with
  | zero =>
    intro y15 y16 μ17 μ41 h kx
    rw [f_X0_findLeast_L50] at h
    cases h
  | succ n ih =>
    intro y15 y16 μ17 μ41 h kx
    rw [f_X0_findLeast_L50] at h
    refine z_iload C0 dX0_findLeast_50 3 rfl ?_
    refine z_sipush (v := (576 : Int32)) C0 dX0_findLeast_52 (by decide) ?_
    by_cases hc42 : (¬ ((576 : Int32) < y16)) ∧ (¬ (y15 = 0))
    · have h := zif_t hc42 h
      refine z_join μ17 63 [(0, .ref (zb g + a0)), (2, .int v2), (4, .int y15), (5, .int y16)] [] ?_ (fun k43 => ?_)
      · refine z_iconst (v := (0 : Int32)) C0 dX0_findLeast_63 (by decide) ?_
        refine z_istore (lo1 := [(4, .int (0 : Int32)), (0, .ref (zb g + a0)), (2, .int v2), (5, .int y16)]) C0 dX0_findLeast_64 (by decide) rfl ?_
        refine z_iconst (v := (0 : Int32)) C0 dX0_findLeast_66 (by decide) ?_
        refine z_istore (lo1 := [(6, .int (0 : Int32)), (4, .int (0 : Int32)), (0, .ref (zb g + a0)), (2, .int v2), (5, .int y16)]) C0 dX0_findLeast_67 (by decide) rfl ?_
        refine z_sub (lo1 := [(0, .ref (zb g + a0)), (2, .int v2), (4, .int (0 : Int32)), (5, .int y16), (6, .int (0 : Int32))]) [2, 3, 1, 4, 0] rfl ?_
        obtain ⟨x38, μ39, e_x38, h⟩ := zbd2_of h
        refine r_X0_findLeast_L69 C0 a0 v2 y16 hU14 zFU (0 : Int32) (0 : Int32) μ17 x38 μ39 e_x38 ?_
        obtain ⟨x40, e_x40, h⟩ := zl_of h
        refine z_iinc (lo1 := [(5, .int x40), (0, .ref (zb g + a0)), (2, .int v2), (4, .int x38)]) C0 dX0_findLeast_107 3 rfl (by decide) e_x40.symm (by decide) rfl ?_
        refine z_goto C0 50 dX0_findLeast_110 (by decide) ?_
        refine z_sub (lo1 := [(0, .ref (zb g + a0)), (2, .int v2), (4, .int x38), (5, .int x40)]) [1, 2, 3, 0] rfl ?_
        exact ih _ _ _ _ h kx
      · refine z_icmp_gt C0 113 dX0_findLeast_55 (by decide) (fun c18 => ?_) (fun c18 => ?_)
        · exact absurd hc42 (fun q => q.1 c18)
        · refine z_iload C0 dX0_findLeast_58 2 rfl ?_
          refine z_if_eq C0 113 dX0_findLeast_60 (by decide) (fun c19 => ?_) (fun c19 => ?_)
          · exact absurd hc42 (fun q => (fun q => q c19) q.2)
          · exact k43
    · have h := zif_f hc42 h
      refine z_join μ17 113 [(0, .ref (zb g + a0)), (2, .int v2), (4, .int y15), (5, .int y16)] [] ?_ (fun k44 => ?_)
      · refine z_sub (lo1 := []) [] rfl ?_
        obtain rfl := (Option.some.inj h)
        exact kx
      · refine z_icmp_gt C0 113 dX0_findLeast_55 (by decide) (fun c18 => ?_) (fun c18 => ?_)
        · exact k44
        · refine z_iload C0 dX0_findLeast_58 2 rfl ?_
          refine z_if_eq C0 113 dX0_findLeast_60 (by decide) (fun c19 => ?_) (fun c19 => ?_)
          · exact k44
          · exact absurd ⟨c18, c19⟩ hc42
set_option maxHeartbeats 4000000 in
set_option maxRecDepth 100000 in
theorem r_X0_findLeast {l : Launch} {g : zL} (a0 : Nat) (a1 : Nat) (v2 : Int32) (μ : zM) (hT0 : zT zNN zσ1 a0 0) (hT1 : zT zNN zσ1 a1 1) {μr : zM} (h : f_X0_findLeast a0 a1 v2 μ = some μr) : zMet l g yX0_findLeast cX0_findLeast 7 none 2 0 0 zNN zNN zσ1 zσ1 [.ref (zb g + a0), .ref (zb g + a1), .int v2] μ none μr := by
  refine zMet.of (by decide +kernel) (Nat.le_of_ble_eq_true rfl) ?_
  intro p e s m args below meth c C0
  refine z_loc (lo1 := [(0, .ref (zb g + a0)), (1, .ref (zb g + a1)), (2, .int v2)]) rfl ?_
  unfold f_X0_findLeast at h
  refine z_iconst (v := (0 : Int32)) C0 dX0_findLeast_0 (by decide) ?_
  refine z_istore_n (lo1 := [(3, .int (0 : Int32)), (0, .ref (zb g + a0)), (1, .ref (zb g + a1)), (2, .int v2)]) C0 dX0_findLeast_1 rfl (by decide) rfl ?_
  refine z_sub (lo1 := [(0, .ref (zb g + a0)), (1, .ref (zb g + a1)), (2, .int v2), (3, .int (0 : Int32))]) [1, 2, 3, 0] rfl ?_
  obtain ⟨μ9, e_μ9, h⟩ := zbd_of h
  refine r_X0_findLeast_L2 C0 a0 a1 v2 hT0 hT1 zFU (0 : Int32) μ μ9 e_μ9 ?_
  refine z_aload_n C0 dX0_findLeast_23 rfl 1 rfl ?_
  refine z_callS (As := [.ref (zb g + a1)]) (rest := []) C0 rfl kc_X0_startOf km_RX0_121 (r_X0_startOf (l := l) (g := g) a1 μ9 hT1 rfl) rfl (Nat.le_of_ble_eq_true rfl) (Nat.le_of_ble_eq_true rfl) (Nat.le_of_ble_eq_true rfl) (Nat.le_of_ble_eq_true rfl) (Nat.le_refl _) rfl rfl dX0_findLeast_24 ?_
  obtain ⟨x10, e_x10, h⟩ := zl_of h
  refine z_nm e_x10 ?_
  refine z_istore_n (lo1 := [(3, .int x10), (0, .ref (zb g + a0)), (1, .ref (zb g + a1)), (2, .int v2)]) C0 dX0_findLeast_27 rfl (by decide) rfl ?_
  refine z_aload_n C0 dX0_findLeast_28 rfl 1 rfl ?_
  refine z_getr C0 hT0 kf_0_24 zr_0_4 zx_0 (zs_0_4 hT0).1 dX0_findLeast_29 ?_
  refine z_iload_n C0 dX0_findLeast_32 rfl 0 rfl ?_
  refine z_iconst (v := (4 : Int32)) C0 dX0_findLeast_33 (by decide) ?_
  refine z_imul C0 dX0_findLeast_34 ?_
  refine z_aload_n C0 dX0_findLeast_35 rfl 1 rfl ?_
  refine z_getr C0 hT0 kf_0_21 zr_0_3 zx_0 (zs_0_3 hT0).1 dX0_findLeast_36 ?_
  refine z_iload_n C0 dX0_findLeast_39 rfl 0 rfl ?_
  obtain ⟨g11, h⟩ := zg_of h
  refine z_iald C0 (zs_0_3 hT0).2 g11 rfl dX0_findLeast_40 ?_
  refine z_iadd C0 dX0_findLeast_41 ?_
  refine z_iconst (v := (0 : Int32)) C0 dX0_findLeast_42 (by decide) ?_
  obtain ⟨g12, h⟩ := zg_of h
  obtain ⟨μ13, e_μ13, h⟩ := zl_of h
  refine z_iast C0 (zs_0_4 hT0).2 g12 rfl e_μ13 dX0_findLeast_43 ?_
  refine z_iconst (v := (1 : Int32)) C0 dX0_findLeast_44 (by decide) ?_
  refine z_istore (lo1 := [(4, .int (1 : Int32)), (3, .int x10), (0, .ref (zb g + a0)), (1, .ref (zb g + a1)), (2, .int v2)]) C0 dX0_findLeast_45 (by decide) rfl ?_
  refine z_iconst (v := (0 : Int32)) C0 dX0_findLeast_47 (by decide) ?_
  refine z_istore (lo1 := [(5, .int (0 : Int32)), (4, .int (1 : Int32)), (3, .int x10), (0, .ref (zb g + a0)), (1, .ref (zb g + a1)), (2, .int v2)]) C0 dX0_findLeast_48 (by decide) rfl ?_
  refine z_sub (lo1 := [(0, .ref (zb g + a0)), (2, .int v2), (4, .int (1 : Int32)), (5, .int (0 : Int32))]) [3, 5, 1, 0] rfl ?_
  obtain ⟨μ41, e_μ41, h⟩ := zbd_of h
  refine r_X0_findLeast_L50 C0 a0 v2 hT0 zFU (1 : Int32) (0 : Int32) μ13 μ41 e_μ41 ?_
  have h := Option.some.inj h
  obtain rfl := h
  exact z_vret C0 rfl dX0_findLeast_113
def f_X0_leastToTouch_L12 (a0 : Nat) (μ5 : zM) : Nat → Int32 → Int32 → Option (Int32)
  | 0, _, _ => none
  | n + 1, y3, y4 =>
    if (144 : Int32) ≤ y4 then
      some y3
    else
      zg (zin ((y4 * (4 : Int32)) + (3 : Int32)) 576) <|
      zl (zmin y3 (μ5 (a0 + 5) (((y4 * (4 : Int32)) + (3 : Int32)).toNatClampNeg))) fun x8 =>
      zl (y4 + (1 : Int32)) fun x9 =>
      f_X0_leastToTouch_L12 a0 μ5 n x8 x9
def f_X0_leastToTouch (a0 : Nat) (a1 : Nat) (v2 : Int32) (μ : zM) : Option (Int32 × zM) :=
  zbd (f_X0_findLeast a0 a1 v2 μ) fun μ1 =>
  zbd (f_X0_leastToTouch_L12 a0 μ1 zFU (1000000 : Int32) (0 : Int32)) fun x10 =>
  zl (if ¬ x10 = (1000000 : Int32) then
      x10
    else
      (-1 : Int32)) fun x13 =>
  some (x13, μ1)
set_option maxHeartbeats 4000000 in
set_option maxRecDepth 100000 in
theorem r_X0_leastToTouch_L12 {l : Launch} {g : zL} {p : Program} {e : Env} {s : State} {m : MethodId} {args : Array Value} {below : List Frame} {meth : Method} {c : Code} {Q : State → Prop} (C0 : zC p s m args meth c g cX0_leastToTouch yX0_leastToTouch 5 (some (.int))) (a0 : Nat) (μ5 : zM) (hU2 : zT zNN zσ1 a0 0) : ∀ (n : Nat) (y3 : Int32) (y4 : Int32) (x10 : Int32), f_X0_leastToTouch_L12 a0 μ5 n y3 y4 = some x10 → Z p l e (zrm 3 0 0) s m args below meth c g Q 5 zNN 0 0 zσ1 μ5 42 [(3, .int x10)] [] → Z p l e (zrm 3 0 0) s m args below meth c g Q 5 zNN 0 0 zσ1 μ5 12 [(0, .ref (zb g + a0)), (3, .int y3), (4, .int y4)] [] := by
  intro n
  induction n with
  | zero =>
    intro y3 y4 x10 h kx
    rw [f_X0_leastToTouch_L12] at h
    cases h
  | succ n ih =>
    intro y3 y4 x10 h kx
    rw [f_X0_leastToTouch_L12] at h
    refine z_iload C0 dX0_leastToTouch_12 2 rfl ?_
    refine z_sipush (v := (144 : Int32)) C0 dX0_leastToTouch_14 (by decide) ?_
    refine z_icmp_ge C0 42 dX0_leastToTouch_17 (by decide) (fun c6 => ?_) (fun c6 => ?_)
    · have h := zif_t c6 h
      refine z_sub (lo1 := [(3, .int y3)]) [1] rfl ?_
      obtain rfl := (Option.some.inj h)
      exact kx
    · have h := zif_f c6 h
      refine z_iload_n C0 dX0_leastToTouch_20 rfl 1 rfl ?_
      refine z_aload_n C0 dX0_leastToTouch_21 rfl 0 rfl ?_
      refine z_getr C0 hU2 kf_0_24 zr_0_4 zx_0 (zs_0_4 hU2).1 dX0_leastToTouch_22 ?_
      refine z_iload C0 dX0_leastToTouch_25 2 rfl ?_
      refine z_iconst (v := (4 : Int32)) C0 dX0_leastToTouch_27 (by decide) ?_
      refine z_imul C0 dX0_leastToTouch_28 ?_
      refine z_iconst (v := (3 : Int32)) C0 dX0_leastToTouch_29 (by decide) ?_
      refine z_iadd C0 dX0_leastToTouch_30 ?_
      obtain ⟨g7, h⟩ := zg_of h
      refine z_iald C0 (zs_0_4 hU2).2 g7 rfl dX0_leastToTouch_31 ?_
      refine z_mmin C0 rfl kM_RX0_140 kM_min (Nat.le_of_ble_eq_true rfl) (Nat.zero_le _) (Nat.zero_le _) dX0_leastToTouch_32 ?_
      obtain ⟨x8, e_x8, h⟩ := zl_of h
      refine z_nm e_x8 ?_
      refine z_istore_n (lo1 := [(3, .int x8), (0, .ref (zb g + a0)), (4, .int y4)]) C0 dX0_leastToTouch_35 rfl (by decide) rfl ?_
      obtain ⟨x9, e_x9, h⟩ := zl_of h
      refine z_iinc (lo1 := [(4, .int x9), (3, .int x8), (0, .ref (zb g + a0))]) C0 dX0_leastToTouch_36 2 rfl (by decide) e_x9.symm (by decide) rfl ?_
      refine z_goto C0 12 dX0_leastToTouch_39 (by decide) ?_
      refine z_sub (lo1 := [(0, .ref (zb g + a0)), (3, .int x8), (4, .int x9)]) [2, 1, 0] rfl ?_
      exact ih _ _ _ h kx
set_option maxHeartbeats 4000000 in
set_option maxRecDepth 100000 in
theorem r_X0_leastToTouch {l : Launch} {g : zL} (a0 : Nat) (a1 : Nat) (v2 : Int32) (μ : zM) (hT0 : zT zNN zσ1 a0 0) (hT1 : zT zNN zσ1 a1 1) {rv : Int32} {μr : zM} (h : f_X0_leastToTouch a0 a1 v2 μ = some (rv, μr)) : zMet l g yX0_leastToTouch cX0_leastToTouch 5 (some (.int)) 3 0 0 zNN zNN zσ1 zσ1 [.ref (zb g + a0), .ref (zb g + a1), .int v2] μ (some (.int rv)) μr := by
  refine zMet.of (by decide +kernel) (Nat.le_of_ble_eq_true rfl) ?_
  intro p e s m args below meth c C0
  refine z_loc (lo1 := [(0, .ref (zb g + a0)), (1, .ref (zb g + a1)), (2, .int v2)]) rfl ?_
  unfold f_X0_leastToTouch at h
  refine z_aload_n C0 dX0_leastToTouch_0 rfl 0 rfl ?_
  refine z_aload_n C0 dX0_leastToTouch_1 rfl 1 rfl ?_
  refine z_iload_n C0 dX0_leastToTouch_2 rfl 2 rfl ?_
  obtain ⟨μ1, e_μ1, h⟩ := zbd_of h
  refine z_callV (As := [.ref (zb g + a1), .int v2]) (rest := []) C0 rfl kc_X0_findLeast km_RX0_136 (r_X0_findLeast (l := l) (g := g) a0 a1 v2 μ hT0 hT1 e_μ1) hT0.1 hT0.2.2.1 rfl (by decide) rfl (Nat.le_of_ble_eq_true rfl) (Nat.le_of_ble_eq_true rfl) (Nat.le_of_ble_eq_true rfl) (Nat.le_of_ble_eq_true rfl) (Nat.le_refl _) rfl rfl dX0_leastToTouch_3 ?_
  refine z_ldc C0 dX0_leastToTouch_6 kk_RX0_131 ?_
  refine z_istore_n (lo1 := [(3, .int (1000000 : Int32)), (0, .ref (zb g + a0)), (1, .ref (zb g + a1)), (2, .int v2)]) C0 dX0_leastToTouch_8 rfl (by decide) rfl ?_
  refine z_iconst (v := (0 : Int32)) C0 dX0_leastToTouch_9 (by decide) ?_
  refine z_istore (lo1 := [(4, .int (0 : Int32)), (3, .int (1000000 : Int32)), (0, .ref (zb g + a0)), (1, .ref (zb g + a1)), (2, .int v2)]) C0 dX0_leastToTouch_10 (by decide) rfl ?_
  refine z_sub (lo1 := [(0, .ref (zb g + a0)), (3, .int (1000000 : Int32)), (4, .int (0 : Int32))]) [2, 1, 0] rfl ?_
  obtain ⟨x10, e_x10, h⟩ := zbd_of h
  refine r_X0_leastToTouch_L12 C0 a0 μ1 hT0 zFU (1000000 : Int32) (0 : Int32) x10 e_x10 ?_
  refine z_iload_n C0 dX0_leastToTouch_42 rfl 0 rfl ?_
  refine z_ldc C0 dX0_leastToTouch_43 kk_RX0_131 ?_
  obtain ⟨x13, e_x13, h⟩ := zl_of h
  refine z_join μ1 53 [] [.int x13] ?_ (fun k_J12 => ?_)
  · have h := Option.some.inj h
    obtain ⟨rfl, rfl⟩ := Prod.mk.inj h
    exact z_iret C0 rfl dX0_leastToTouch_53
  · have h := e_x13.symm
    refine z_icmp_ne C0 52 dX0_leastToTouch_45 (by decide) (fun c11 => ?_) (fun c11 => ?_)
    · have h := zif_t c11 h
      refine z_iload_n C0 dX0_leastToTouch_52 rfl 0 rfl ?_
      refine z_sub (lo1 := []) [] rfl ?_
      obtain rfl := h
      exact k_J12
    · have h := zif_f (fun q => q c11) h
      refine z_iconst (v := (-1 : Int32)) C0 dX0_leastToTouch_48 (by decide) ?_
      refine z_goto C0 53 dX0_leastToTouch_49 (by decide) ?_
      refine z_sub (lo1 := []) [] rfl ?_
      obtain rfl := h
      exact k_J12
def f_X0_tearsOf_L4 (a0 : Nat) (v1 : Int32) (μ4 : zM) : Nat → Int32 → Int32 → Option (Int32)
  | 0, _, _ => none
  | n + 1, y2, y3 =>
    if (μ4 (a0 + 8) 2) ≤ y3 then
      some y2
    else
      zbd (if ¬ ((v1 >>> (y3 &&& 31)) &&& (1 : Int32)) = (1 : Int32) then
          some (0 : Int32)
        else
          zbd (f_X6_number (a0 + 8) y3 (1 : Int32) μ4) fun r8 =>
          some r8) fun x9 =>
      zl (y2 + x9) fun x10 =>
      zl (y3 + (1 : Int32)) fun x11 =>
      f_X0_tearsOf_L4 a0 v1 μ4 n x10 x11
def f_X0_tearsOf (a0 : Nat) (v1 : Int32) (μ : zM) : Option (Int32) :=
  zbd (f_X0_tearsOf_L4 a0 v1 μ zFU (0 : Int32) (0 : Int32)) fun x12 =>
  some x12
set_option maxHeartbeats 4000000 in
set_option maxRecDepth 100000 in
theorem r_X0_tearsOf_L4 {l : Launch} {g : zL} {κ : zK} {p : Program} {e : Env} {s : State} {m : MethodId} {args : Array Value} {below : List Frame} {meth : Method} {c : Code} {Q : State → Prop} (C0 : zC p s m args meth c g cX0_tearsOf yX0_tearsOf 4 (some (.int))) (hSp : zSK g κ) (a0 : Nat) (v1 : Int32) (μ4 : zM) (hU1 : zT zNN zσ1 a0 1) : ∀ (n : Nat) (y2 : Int32) (y3 : Int32) (x12 : Int32), f_X0_tearsOf_L4 a0 v1 μ4 n y2 y3 = some x12 → Z p l e (zrm 1 0 0) s m args below meth c g Q 4 zNN 0 0 zσ1 μ4 45 [(2, .int x12)] [] → Z p l e (zrm 1 0 0) s m args below meth c g Q 4 zNN 0 0 zσ1 μ4 4 [(0, .ref (zb g + a0)), (1, .int v1), (2, .int y2), (3, .int y3)] [] := by
  have hF := hSp.at C0
  intro n
  induction n with
  | zero =>
    intro y2 y3 x12 h kx
    rw [f_X0_tearsOf_L4] at h
    cases h
  | succ n ih =>
    intro y2 y3 x12 h kx
    rw [f_X0_tearsOf_L4] at h
    refine z_iload_n C0 dX0_tearsOf_4 rfl 3 rfl ?_
    refine z_aload_n C0 dX0_tearsOf_5 rfl 0 rfl ?_
    refine z_getr C0 hU1 kf_0_50 zr_1_4 zx_1 (zs_1_4 hU1).1 dX0_tearsOf_6 ?_
    refine z_geti C0 (zs_1_4 hU1).2.1 (zs_1_4 hU1).2.2.2.1 kf_0_56 zr_6_2 dX0_tearsOf_9 ?_
    refine z_icmp_ge C0 45 dX0_tearsOf_12 (by decide) (fun c5 => ?_) (fun c5 => ?_)
    · have h := zif_t c5 h
      refine z_sub (lo1 := [(2, .int y2)]) [2] rfl ?_
      obtain rfl := (Option.some.inj h)
      exact kx
    · have h := zif_f c5 h
      refine z_iload_n C0 dX0_tearsOf_15 rfl 2 rfl ?_
      refine z_iload_n C0 dX0_tearsOf_16 rfl 1 rfl ?_
      refine z_iload_n C0 dX0_tearsOf_17 rfl 3 rfl ?_
      refine z_callSN (As := [.int v1, .int y3]) (rest := [.int y2]) C0 rfl kc_X11_isIn (hF.2.2.2.2.2.2.2.1 _ (List.mem_of_getElem? (i := 8) rfl)) (r_X11_isIn (l := l) (g := g) (μ := μ4) v1 y3 rfl) rfl (Nat.le_of_ble_eq_true rfl) (Nat.le_of_ble_eq_true rfl) (Nat.le_of_ble_eq_true rfl) (Nat.le_of_ble_eq_true rfl) rfl rfl dX0_tearsOf_18 ?_
      obtain ⟨x9, e_x9, h⟩ := zbd_of h
      refine z_join μ4 37 [(0, .ref (zb g + a0)), (1, .int v1), (3, .int y3)] [.int x9, .int y2] ?_ (fun k_J7 => ?_)
      · refine z_iadd C0 dX0_tearsOf_37 ?_
        obtain ⟨x10, e_x10, h⟩ := zl_of h
        refine z_nm e_x10 ?_
        refine z_istore_n (lo1 := [(2, .int x10), (0, .ref (zb g + a0)), (1, .int v1), (3, .int y3)]) C0 dX0_tearsOf_38 rfl (by decide) rfl ?_
        obtain ⟨x11, e_x11, h⟩ := zl_of h
        refine z_iinc (lo1 := [(3, .int x11), (2, .int x10), (0, .ref (zb g + a0)), (1, .int v1)]) C0 dX0_tearsOf_39 3 rfl (by decide) e_x11.symm (by decide) rfl ?_
        refine z_goto C0 4 dX0_tearsOf_42 (by decide) ?_
        refine z_sub (lo1 := [(0, .ref (zb g + a0)), (1, .int v1), (2, .int x10), (3, .int x11)]) [2, 3, 1, 0] rfl ?_
        exact ih _ _ _ h kx
      · have h := e_x9
        refine z_if_eqI C0 36 dX0_tearsOf_21 (by decide) (fun c6 => ?_) (fun c6 => ?_)
        · have h := zif_t c6 h
          refine z_iconst (v := (0 : Int32)) C0 dX0_tearsOf_36 (by decide) ?_
          refine z_sub (lo1 := [(0, .ref (zb g + a0)), (1, .int v1), (3, .int y3)]) [0, 1, 3] rfl ?_
          obtain rfl := (Option.some.inj h)
          exact k_J7
        · have h := zif_f (fun q => q c6) h
          refine z_aload_n C0 dX0_tearsOf_24 rfl 0 rfl ?_
          refine z_getr C0 hU1 kf_0_50 zr_1_4 zx_1 (zs_1_4 hU1).1 dX0_tearsOf_25 ?_
          refine z_iload_n C0 dX0_tearsOf_28 rfl 3 rfl ?_
          refine z_iconst (v := (1 : Int32)) C0 dX0_tearsOf_29 (by decide) ?_
          obtain ⟨r8, e_r8, h⟩ := zbd_of h
          refine z_callV (As := [.int y3, .int (1 : Int32)]) (rest := [.int y2]) C0 rfl kc_X6_number km_RX0_69 (r_X6_number (l := l) (g := g) (a0 + 8) y3 (1 : Int32) μ4 (zs_1_4 hU1).2 e_r8) (zs_1_4 hU1).2.1 (zs_1_4 hU1).2.2.2.1 rfl (by decide) rfl (Nat.le_of_ble_eq_true rfl) (Nat.le_of_ble_eq_true rfl) (Nat.le_of_ble_eq_true rfl) (Nat.le_of_ble_eq_true rfl) (Nat.le_refl _) rfl rfl dX0_tearsOf_30 ?_
          refine z_goto C0 37 dX0_tearsOf_33 (by decide) ?_
          refine z_sub (lo1 := [(0, .ref (zb g + a0)), (1, .int v1), (3, .int y3)]) [0, 1, 3] rfl ?_
          obtain rfl := (Option.some.inj h)
          exact k_J7
set_option maxHeartbeats 4000000 in
set_option maxRecDepth 100000 in
theorem r_X0_tearsOf {l : Launch} {g : zL} {κ : zK} (a0 : Nat) (v1 : Int32) (μ : zM) (hT0 : zT zNN zσ1 a0 1) (hSp : zSK g κ) {rv : Int32} (h : f_X0_tearsOf a0 v1 μ = some rv) : zMet l g yX0_tearsOf cX0_tearsOf 4 (some (.int)) 1 0 0 zNN zNN zσ1 zσ1 [.ref (zb g + a0), .int v1] μ (some (.int rv)) μ := by
  refine zMet.of (by decide +kernel) (Nat.le_of_ble_eq_true rfl) ?_
  intro p e s m args below meth c C0
  have hF := hSp.at C0
  refine z_loc (lo1 := [(0, .ref (zb g + a0)), (1, .int v1)]) rfl ?_
  unfold f_X0_tearsOf at h
  refine z_iconst (v := (0 : Int32)) C0 dX0_tearsOf_0 (by decide) ?_
  refine z_istore_n (lo1 := [(2, .int (0 : Int32)), (0, .ref (zb g + a0)), (1, .int v1)]) C0 dX0_tearsOf_1 rfl (by decide) rfl ?_
  refine z_iconst (v := (0 : Int32)) C0 dX0_tearsOf_2 (by decide) ?_
  refine z_istore_n (lo1 := [(3, .int (0 : Int32)), (2, .int (0 : Int32)), (0, .ref (zb g + a0)), (1, .int v1)]) C0 dX0_tearsOf_3 rfl (by decide) rfl ?_
  refine z_sub (lo1 := [(0, .ref (zb g + a0)), (1, .int v1), (2, .int (0 : Int32)), (3, .int (0 : Int32))]) [2, 3, 1, 0] rfl ?_
  obtain ⟨x12, e_x12, h⟩ := zbd_of h
  refine r_X0_tearsOf_L4 C0 hSp a0 v1 μ hT0 zFU (0 : Int32) (0 : Int32) x12 e_x12 ?_
  refine z_iload_n C0 dX0_tearsOf_45 rfl 0 rfl ?_
  have h := Option.some.inj h
  obtain rfl := h
  exact z_iret C0 rfl dX0_tearsOf_46
def f_X0_lowerPrices_L2 (a0 : Nat) (v1 : Int32) (v2 : Int32) : Nat → Int32 → zM → Option (zM)
  | 0, _, _ => none
  | n + 1, y2, μ3 =>
    if (9 : Int32) ≤ y2 then
      some μ3
    else
      zg (zin v1 64) <|
      zbd (zbd (if ¬ (((μ3 (a0 + 1) (v1.toNatClampNeg)) >>> ((y2 % (3 : Int32)) &&& 31)) &&& (1 : Int32)) = (1 : Int32) then
            some false
          else
            zg (zin ((32 : Int32) + v1) 64) <|
            if ¬ (((μ3 (a0 + 1) (((32 : Int32) + v1).toNatClampNeg)) >>> ((y2 / (3 : Int32)) &&& 31)) &&& (1 : Int32)) = (1 : Int32) then
              some false
            else
              some true) fun b17 =>
        if b17 = true then
          some (1 : Int32)
        else
          some (0 : Int32)) fun x19 =>
      zbd (zbd (if x19 = 0 then
            some false
          else
            zg (zin y2 9) <|
            if (μ3 (a0 + 2) (y2.toNatClampNeg)) = (-1 : Int32) then
              some true
            else
              zg (zin y2 9) <|
              if (μ3 (a0 + 2) (y2.toNatClampNeg)) ≤ v2 then
                some false
              else
                some true) fun b27 =>
        if b27 = true then
          zg (zin y2 9) <|
          zl (zup μ3 (a0 + 2) (y2.toNatClampNeg) v2) fun μ30 =>
          some μ30
        else
          some μ3) fun μ31 =>
      zl (y2 + (1 : Int32)) fun x32 =>
      f_X0_lowerPrices_L2 a0 v1 v2 n x32 μ31
def f_X0_lowerPrices (a0 : Nat) (v1 : Int32) (v2 : Int32) (μ : zM) : Option (zM) :=
  zbd (f_X0_lowerPrices_L2 a0 v1 v2 zFU (0 : Int32) μ) fun μ33 =>
  some μ33
set_option maxHeartbeats 4000000 in
set_option maxRecDepth 100000 in
theorem r_X0_lowerPrices_L2 {l : Launch} {g : zL} {κ : zK} {p : Program} {e : Env} {s : State} {m : MethodId} {args : Array Value} {below : List Frame} {meth : Method} {c : Code} {Q : State → Prop} (C0 : zC p s m args meth c g cX0_lowerPrices yX0_lowerPrices 5 none) (hSp : zSK g κ) (a0 : Nat) (v1 : Int32) (v2 : Int32) (hU1 : zT zNN zσ1 a0 0) : ∀ (n : Nat) (y2 : Int32) (μ3 : zM) (μ33 : zM), f_X0_lowerPrices_L2 a0 v1 v2 n y2 μ3 = some μ33 → Z p l e (zrm 1 0 0) s m args below meth c g Q 5 zNN 0 0 zσ1 μ33 86 [] [] → Z p l e (zrm 1 0 0) s m args below meth c g Q 5 zNN 0 0 zσ1 μ3 2 [(0, .ref (zb g + a0)), (1, .int v1), (2, .int v2), (3, .int y2)] [] := by
  have hF := hSp.at C0
  intro n
  induction n with
  | zero =>
    intro y2 μ3 μ33 h kx
    rw [f_X0_lowerPrices_L2] at h
    cases h
  | succ n ih =>
    intro y2 μ3 μ33 h kx
    rw [f_X0_lowerPrices_L2] at h
    refine z_iload_n C0 dX0_lowerPrices_2 rfl 3 rfl ?_
    refine z_bipush (v := (9 : Int32)) C0 dX0_lowerPrices_3 (by decide) ?_
    refine z_icmp_ge C0 86 dX0_lowerPrices_5 (by decide) (fun c4 => ?_) (fun c4 => ?_)
    · have h := zif_t c4 h
      refine z_sub (lo1 := []) [] rfl ?_
      obtain rfl := (Option.some.inj h)
      exact kx
    · have h := zif_f c4 h
      refine z_aload_n C0 dX0_lowerPrices_8 rfl 0 rfl ?_
      refine z_getr C0 hU1 kf_0_11 zr_0_0 zx_0 (zs_0_0 hU1).1 dX0_lowerPrices_9 ?_
      refine z_iload_n C0 dX0_lowerPrices_12 rfl 1 rfl ?_
      obtain ⟨g12, h⟩ := zg_of h
      refine z_iald C0 (zs_0_0 hU1).2 g12 rfl dX0_lowerPrices_13 ?_
      refine z_iload_n C0 dX0_lowerPrices_14 rfl 3 rfl ?_
      refine z_iconst (v := (3 : Int32)) C0 dX0_lowerPrices_15 (by decide) ?_
      refine z_irem C0 dX0_lowerPrices_16 (by decide) ?_
      refine z_callSN (As := [.int (μ3 (a0 + 1) (v1.toNatClampNeg)), .int (y2 % (3 : Int32))]) (rest := []) C0 rfl kc_X11_isIn (hF.2.2.2.2.2.2.2.1 _ (List.mem_of_getElem? (i := 8) rfl)) (r_X11_isIn (l := l) (g := g) (μ := μ3) (μ3 (a0 + 1) (v1.toNatClampNeg)) (y2 % (3 : Int32)) rfl) rfl (Nat.le_of_ble_eq_true rfl) (Nat.le_of_ble_eq_true rfl) (Nat.le_of_ble_eq_true rfl) (Nat.le_of_ble_eq_true rfl) rfl rfl dX0_lowerPrices_17 ?_
      obtain ⟨x19, e_x19, h⟩ := zbd_of h
      refine z_join μ3 46 [(0, .ref (zb g + a0)), (1, .int v1), (2, .int v2), (3, .int y2)] [.int x19] ?_ (fun k_J18 => ?_)
      · refine z_istore (lo1 := [(4, .int x19), (0, .ref (zb g + a0)), (1, .int v1), (2, .int v2), (3, .int y2)]) C0 dX0_lowerPrices_46 (by decide) rfl ?_
        refine z_iload C0 dX0_lowerPrices_48 0 rfl ?_
        obtain ⟨μ31, e_μ31, h⟩ := zbd_of h
        refine z_join μ31 80 [(0, .ref (zb g + a0)), (1, .int v1), (2, .int v2), (3, .int y2)] [] ?_ (fun k_J28 => ?_)
        · obtain ⟨x32, e_x32, h⟩ := zl_of h
          refine z_iinc (lo1 := [(3, .int x32), (0, .ref (zb g + a0)), (1, .int v1), (2, .int v2)]) C0 dX0_lowerPrices_80 3 rfl (by decide) e_x32.symm (by decide) rfl ?_
          refine z_goto C0 2 dX0_lowerPrices_83 (by decide) ?_
          refine z_sub (lo1 := [(0, .ref (zb g + a0)), (1, .int v1), (2, .int v2), (3, .int x32)]) [1, 2, 3, 0] rfl ?_
          exact ih _ _ _ h kx
        · have h := e_μ31
          obtain ⟨b27, e_b27, h⟩ := zbd_of h
          refine z_joinb b27 μ3 73 80 [(4, .int x19), (0, .ref (zb g + a0)), (1, .int v1), (2, .int v2), (3, .int y2)] [] (fun z36 => ?_) (fun z36 => ?_) (fun k34 k35 => ?_)
          · have h := zif_t z36 h
            refine z_aload_n C0 dX0_lowerPrices_73 rfl 1 rfl ?_
            refine z_getr C0 hU1 kf_0_15 zr_0_1 zx_0 (zs_0_1 hU1).1 dX0_lowerPrices_74 ?_
            refine z_iload_n C0 dX0_lowerPrices_77 rfl 4 rfl ?_
            refine z_iload_n C0 dX0_lowerPrices_78 rfl 3 rfl ?_
            obtain ⟨g29, h⟩ := zg_of h
            obtain ⟨μ30, e_μ30, h⟩ := zl_of h
            refine z_iast C0 (zs_0_1 hU1).2 g29 rfl e_μ30 dX0_lowerPrices_79 ?_
            refine z_sub (lo1 := [(0, .ref (zb g + a0)), (1, .int v1), (2, .int v2), (3, .int y2)]) [1, 2, 3, 4] rfl ?_
            obtain rfl := (Option.some.inj h)
            exact k_J28
          · have h := zif_f (fun q => Bool.noConfusion (z36.symm.trans q)) h
            refine z_sub (lo1 := [(0, .ref (zb g + a0)), (1, .int v1), (2, .int v2), (3, .int y2)]) [1, 2, 3, 4] rfl ?_
            obtain rfl := (Option.some.inj h)
            exact k_J28
          · have h := e_b27
            refine z_if_eq C0 80 dX0_lowerPrices_50 (by decide) (fun c20 => ?_) (fun c20 => ?_)
            · have h := zif_t c20 h
              exact k35 (Option.some.inj h).symm
            · have h := zif_f c20 h
              refine z_aload_n C0 dX0_lowerPrices_53 rfl 1 rfl ?_
              refine z_getr C0 hU1 kf_0_15 zr_0_1 zx_0 (zs_0_1 hU1).1 dX0_lowerPrices_54 ?_
              refine z_iload_n C0 dX0_lowerPrices_57 rfl 4 rfl ?_
              obtain ⟨g22, h⟩ := zg_of h
              refine z_iald C0 (zs_0_1 hU1).2 g22 rfl dX0_lowerPrices_58 ?_
              refine z_iconst (v := (-1 : Int32)) C0 dX0_lowerPrices_59 (by decide) ?_
              refine z_icmp_eq C0 73 dX0_lowerPrices_60 (by decide) (fun c23 => ?_) (fun c23 => ?_)
              · have h := zif_t c23 h
                exact k34 (Option.some.inj h).symm
              · have h := zif_f c23 h
                refine z_iload_n C0 dX0_lowerPrices_63 rfl 3 rfl ?_
                refine z_aload_n C0 dX0_lowerPrices_64 rfl 1 rfl ?_
                refine z_getr C0 hU1 kf_0_15 zr_0_1 zx_0 (zs_0_1 hU1).1 dX0_lowerPrices_65 ?_
                refine z_iload_n C0 dX0_lowerPrices_68 rfl 4 rfl ?_
                obtain ⟨g25, h⟩ := zg_of h
                refine z_iald C0 (zs_0_1 hU1).2 g25 rfl dX0_lowerPrices_69 ?_
                refine z_icmp_ge C0 80 dX0_lowerPrices_70 (by decide) (fun c26 => ?_) (fun c26 => ?_)
                · have h := zif_t c26 h
                  exact k35 (Option.some.inj h).symm
                · have h := zif_f c26 h
                  exact k34 (Option.some.inj h).symm
      · have h := e_x19
        obtain ⟨b17, e_b17, h⟩ := zbd_of h
        refine z_joinb b17 μ3 41 45 [(0, .ref (zb g + a0)), (1, .int v1), (2, .int v2), (3, .int y2)] [] (fun z39 => ?_) (fun z39 => ?_) (fun k37 k38 => ?_)
        · have h := zif_t z39 h
          refine z_iconst (v := (1 : Int32)) C0 dX0_lowerPrices_41 (by decide) ?_
          refine z_goto C0 46 dX0_lowerPrices_42 (by decide) ?_
          obtain rfl := (Option.some.inj h)
          exact k_J18
        · have h := zif_f (fun q => Bool.noConfusion (z39.symm.trans q)) h
          refine z_iconst (v := (0 : Int32)) C0 dX0_lowerPrices_45 (by decide) ?_
          obtain rfl := (Option.some.inj h)
          exact k_J18
        · have h := e_b17
          refine z_if_eqI C0 45 dX0_lowerPrices_20 (by decide) (fun c13 => ?_) (fun c13 => ?_)
          · have h := zif_t c13 h
            exact k38 (Option.some.inj h).symm
          · have h := zif_f (fun q => q c13) h
            refine z_aload_n C0 dX0_lowerPrices_23 rfl 0 rfl ?_
            refine z_getr C0 hU1 kf_0_11 zr_0_0 zx_0 (zs_0_0 hU1).1 dX0_lowerPrices_24 ?_
            refine z_bipush (v := (32 : Int32)) C0 dX0_lowerPrices_27 (by decide) ?_
            refine z_iload_n C0 dX0_lowerPrices_29 rfl 1 rfl ?_
            refine z_iadd C0 dX0_lowerPrices_30 ?_
            obtain ⟨g15, h⟩ := zg_of h
            refine z_iald C0 (zs_0_0 hU1).2 g15 rfl dX0_lowerPrices_31 ?_
            refine z_iload_n C0 dX0_lowerPrices_32 rfl 3 rfl ?_
            refine z_iconst (v := (3 : Int32)) C0 dX0_lowerPrices_33 (by decide) ?_
            refine z_idiv C0 dX0_lowerPrices_34 (by decide) ?_
            refine z_callSN (As := [.int (μ3 (a0 + 1) (((32 : Int32) + v1).toNatClampNeg)), .int (y2 / (3 : Int32))]) (rest := []) C0 rfl kc_X11_isIn (hF.2.2.2.2.2.2.2.1 _ (List.mem_of_getElem? (i := 8) rfl)) (r_X11_isIn (l := l) (g := g) (μ := μ3) (μ3 (a0 + 1) (((32 : Int32) + v1).toNatClampNeg)) (y2 / (3 : Int32)) rfl) rfl (Nat.le_of_ble_eq_true rfl) (Nat.le_of_ble_eq_true rfl) (Nat.le_of_ble_eq_true rfl) (Nat.le_of_ble_eq_true rfl) rfl rfl dX0_lowerPrices_35 ?_
            refine z_if_eqI C0 45 dX0_lowerPrices_38 (by decide) (fun c16 => ?_) (fun c16 => ?_)
            · have h := zif_t c16 h
              exact k38 (Option.some.inj h).symm
            · have h := zif_f (fun q => q c16) h
              exact k37 (Option.some.inj h).symm
set_option maxHeartbeats 4000000 in
set_option maxRecDepth 100000 in
theorem r_X0_lowerPrices {l : Launch} {g : zL} {κ : zK} (a0 : Nat) (v1 : Int32) (v2 : Int32) (μ : zM) (hT0 : zT zNN zσ1 a0 0) (hSp : zSK g κ) {μr : zM} (h : f_X0_lowerPrices a0 v1 v2 μ = some μr) : zMet l g yX0_lowerPrices cX0_lowerPrices 5 none 1 0 0 zNN zNN zσ1 zσ1 [.ref (zb g + a0), .int v1, .int v2] μ none μr := by
  refine zMet.of (by decide +kernel) (Nat.le_of_ble_eq_true rfl) ?_
  intro p e s m args below meth c C0
  have hF := hSp.at C0
  refine z_loc (lo1 := [(0, .ref (zb g + a0)), (1, .int v1), (2, .int v2)]) rfl ?_
  unfold f_X0_lowerPrices at h
  refine z_iconst (v := (0 : Int32)) C0 dX0_lowerPrices_0 (by decide) ?_
  refine z_istore_n (lo1 := [(3, .int (0 : Int32)), (0, .ref (zb g + a0)), (1, .int v1), (2, .int v2)]) C0 dX0_lowerPrices_1 rfl (by decide) rfl ?_
  refine z_sub (lo1 := [(0, .ref (zb g + a0)), (1, .int v1), (2, .int v2), (3, .int (0 : Int32))]) [1, 2, 3, 0] rfl ?_
  obtain ⟨μ33, e_μ33, h⟩ := zbd_of h
  refine r_X0_lowerPrices_L2 C0 hSp a0 v1 v2 hT0 zFU (0 : Int32) μ μ33 e_μ33 ?_
  have h := Option.some.inj h
  obtain rfl := h
  exact z_vret C0 rfl dX0_lowerPrices_86
def f_X0_priceWithout_L2 (a0 : Nat) (a1 : Nat) (v2 : Int32) : Nat → Int32 → zM → Option (zM)
  | 0, _, _ => none
  | n + 1, y3, μ4 =>
    if (9 : Int32) ≤ y3 then
      some μ4
    else
      zg (zin y3 9) <|
      zl (zup μ4 (a0 + 2) (y3.toNatClampNeg) (-1 : Int32)) fun μ7 =>
      zl (y3 + (1 : Int32)) fun x8 =>
      f_X0_priceWithout_L2 a0 a1 v2 n x8 μ7
def f_X0_priceWithout_L34 (a0 : Nat) (a1 : Nat) (v2 : Int32) (x10 : Int32) : Nat → Int32 → zM → Option (zM)
  | 0, _, _ => none
  | n + 1, y13, μ14 =>
    if (¬ (x10 ≤ y13)) ∧ (¬ ((32 : Int32) ≤ y13)) then
      zbd (if ¬ (y13 &&& v2) = 0 then
          some μ14
        else
          zbd (f_X0_tearsOf a1 y13 μ14) fun r21 =>
          zbd (f_X0_lowerPrices a0 y13 r21 μ14) fun μ22 =>
          some μ22) fun μ23 =>
      zl (y13 + (1 : Int32)) fun x24 =>
      f_X0_priceWithout_L34 a0 a1 v2 x10 n x24 μ23
    else
      some μ14
def f_X0_priceWithout (a0 : Nat) (a1 : Nat) (v2 : Int32) (μ : zM) : Option (zM) :=
  zbd (f_X0_priceWithout_L2 a0 a1 v2 zFU (0 : Int32) μ) fun μ9 =>
  zl ((1 : Int32) <<< ((μ9 (a1 + 8) 2) &&& 31)) fun x10 =>
  zbd (f_X0_priceWithout_L34 a0 a1 v2 x10 zFU (0 : Int32) μ9) fun μ25 =>
  some μ25
set_option maxHeartbeats 4000000 in
set_option maxRecDepth 100000 in
theorem r_X0_priceWithout_L2 {l : Launch} {g : zL} {κ : zK} {p : Program} {e : Env} {s : State} {m : MethodId} {args : Array Value} {below : List Frame} {meth : Method} {c : Code} {Q : State → Prop} (C0 : zC p s m args meth c g cX0_priceWithout yX0_priceWithout 5 none) (hSp : zSK g κ) (a0 : Nat) (a1 : Nat) (v2 : Int32) (hU1 : zT zNN zσ1 a0 0) (hU2 : zT zNN zσ1 a1 1) : ∀ (n : Nat) (y3 : Int32) (μ4 : zM) (μ9 : zM), f_X0_priceWithout_L2 a0 a1 v2 n y3 μ4 = some μ9 → Z p l e (zrm 2 0 0) s m args below meth c g Q 5 zNN 0 0 zσ1 μ9 21 [(0, .ref (zb g + a0)), (1, .ref (zb g + a1)), (2, .int v2)] [] → Z p l e (zrm 2 0 0) s m args below meth c g Q 5 zNN 0 0 zσ1 μ4 2 [(0, .ref (zb g + a0)), (1, .ref (zb g + a1)), (2, .int v2), (3, .int y3)] [] := by
  have hF := hSp.at C0
  intro n
  induction n with
  | zero =>
    intro y3 μ4 μ9 h kx
    rw [f_X0_priceWithout_L2] at h
    cases h
  | succ n ih =>
    intro y3 μ4 μ9 h kx
    rw [f_X0_priceWithout_L2] at h
    refine z_iload_n C0 dX0_priceWithout_2 rfl 3 rfl ?_
    refine z_bipush (v := (9 : Int32)) C0 dX0_priceWithout_3 (by decide) ?_
    refine z_icmp_ge C0 21 dX0_priceWithout_5 (by decide) (fun c5 => ?_) (fun c5 => ?_)
    · have h := zif_t c5 h
      refine z_sub (lo1 := [(0, .ref (zb g + a0)), (1, .ref (zb g + a1)), (2, .int v2)]) [0, 1, 2] rfl ?_
      obtain rfl := (Option.some.inj h)
      exact kx
    · have h := zif_f c5 h
      refine z_aload_n C0 dX0_priceWithout_8 rfl 0 rfl ?_
      refine z_getr C0 hU1 kf_0_15 zr_0_1 zx_0 (zs_0_1 hU1).1 dX0_priceWithout_9 ?_
      refine z_iload_n C0 dX0_priceWithout_12 rfl 3 rfl ?_
      refine z_iconst (v := (-1 : Int32)) C0 dX0_priceWithout_13 (by decide) ?_
      obtain ⟨g6, h⟩ := zg_of h
      obtain ⟨μ7, e_μ7, h⟩ := zl_of h
      refine z_iast C0 (zs_0_1 hU1).2 g6 rfl e_μ7 dX0_priceWithout_14 ?_
      obtain ⟨x8, e_x8, h⟩ := zl_of h
      refine z_iinc (lo1 := [(3, .int x8), (0, .ref (zb g + a0)), (1, .ref (zb g + a1)), (2, .int v2)]) C0 dX0_priceWithout_15 3 rfl (by decide) e_x8.symm (by decide) rfl ?_
      refine z_goto C0 2 dX0_priceWithout_18 (by decide) ?_
      refine z_sub (lo1 := [(0, .ref (zb g + a0)), (1, .ref (zb g + a1)), (2, .int v2), (3, .int x8)]) [1, 2, 3, 0] rfl ?_
      exact ih _ _ _ h kx
set_option maxHeartbeats 4000000 in
set_option maxRecDepth 100000 in
theorem r_X0_priceWithout_L34 {l : Launch} {g : zL} {κ : zK} {p : Program} {e : Env} {s : State} {m : MethodId} {args : Array Value} {below : List Frame} {meth : Method} {c : Code} {Q : State → Prop} (C0 : zC p s m args meth c g cX0_priceWithout yX0_priceWithout 5 none) (hSp : zSK g κ) (a0 : Nat) (a1 : Nat) (v2 : Int32) (x10 : Int32) (hU11 : zT zNN zσ1 a0 0) (hU12 : zT zNN zσ1 a1 1) : ∀ (n : Nat) (y13 : Int32) (μ14 : zM) (μ25 : zM), f_X0_priceWithout_L34 a0 a1 v2 x10 n y13 μ14 = some μ25 → Z p l e (zrm 2 0 0) s m args below meth c g Q 5 zNN 0 0 zσ1 μ25 72 [] [] → Z p l e (zrm 2 0 0) s m args below meth c g Q 5 zNN 0 0 zσ1 μ14 34 [(0, .ref (zb g + a0)), (1, .ref (zb g + a1)), (2, .int v2), (3, .int x10), (4, .int y13)] [] := by
  have hF := hSp.at C0
  intro n
  induction n with
  | zero =>
    intro y13 μ14 μ25 h kx
    rw [f_X0_priceWithout_L34] at h
    cases h
  | succ n ih =>
    intro y13 μ14 μ25 h kx
    rw [f_X0_priceWithout_L34] at h
    refine z_iload C0 dX0_priceWithout_34 4 rfl ?_
    refine z_iload_n C0 dX0_priceWithout_36 rfl 3 rfl ?_
    by_cases hc26 : (¬ (x10 ≤ y13)) ∧ (¬ ((32 : Int32) ≤ y13))
    · have h := zif_t hc26 h
      refine z_join μ14 47 [(0, .ref (zb g + a0)), (1, .ref (zb g + a1)), (2, .int v2), (3, .int x10), (4, .int y13)] [] ?_ (fun k27 => ?_)
      · refine z_iload C0 dX0_priceWithout_47 4 rfl ?_
        refine z_iload_n C0 dX0_priceWithout_49 rfl 2 rfl ?_
        refine z_iand C0 dX0_priceWithout_50 ?_
        obtain ⟨μ23, e_μ23, h⟩ := zbd_of h
        refine z_join μ23 66 [(0, .ref (zb g + a0)), (1, .ref (zb g + a1)), (2, .int v2), (3, .int x10), (4, .int y13)] [] ?_ (fun k_J20 => ?_)
        · obtain ⟨x24, e_x24, h⟩ := zl_of h
          refine z_iinc (lo1 := [(4, .int x24), (0, .ref (zb g + a0)), (1, .ref (zb g + a1)), (2, .int v2), (3, .int x10)]) C0 dX0_priceWithout_66 4 rfl (by decide) e_x24.symm (by decide) rfl ?_
          refine z_goto C0 34 dX0_priceWithout_69 (by decide) ?_
          refine z_sub (lo1 := [(0, .ref (zb g + a0)), (1, .ref (zb g + a1)), (2, .int v2), (3, .int x10), (4, .int x24)]) [1, 2, 3, 4, 0] rfl ?_
          exact ih _ _ _ h kx
        · have h := e_μ23
          refine z_if_ne C0 66 dX0_priceWithout_51 (by decide) (fun c19 => ?_) (fun c19 => ?_)
          · have h := zif_t c19 h
            obtain rfl := (Option.some.inj h)
            exact k_J20
          · have h := zif_f (fun q => q c19) h
            refine z_aload_n C0 dX0_priceWithout_54 rfl 0 rfl ?_
            refine z_iload C0 dX0_priceWithout_55 4 rfl ?_
            refine z_aload_n C0 dX0_priceWithout_57 rfl 1 rfl ?_
            refine z_iload C0 dX0_priceWithout_58 4 rfl ?_
            obtain ⟨r21, e_r21, h⟩ := zbd_of h
            refine z_callS (As := [.ref (zb g + a1), .int y13]) (rest := [.int y13, .ref (zb g + a0)]) C0 rfl kc_X0_tearsOf km_RX0_76 (r_X0_tearsOf (l := l) (g := g) a1 y13 μ14 hU12 hSp e_r21) rfl (Nat.le_of_ble_eq_true rfl) (Nat.le_of_ble_eq_true rfl) (Nat.le_of_ble_eq_true rfl) (Nat.le_of_ble_eq_true rfl) (Nat.le_refl _) rfl rfl dX0_priceWithout_60 ?_
            obtain ⟨μ22, e_μ22, h⟩ := zbd_of h
            refine z_callV (As := [.int y13, .int r21]) (rest := []) C0 rfl kc_X0_lowerPrices km_RX0_80 (r_X0_lowerPrices (l := l) (g := g) a0 y13 r21 μ14 hU11 hSp e_μ22) hU11.1 hU11.2.2.1 rfl (by decide) rfl (Nat.le_of_ble_eq_true rfl) (Nat.le_of_ble_eq_true rfl) (Nat.le_of_ble_eq_true rfl) (Nat.le_of_ble_eq_true rfl) (Nat.le_refl _) rfl rfl dX0_priceWithout_63 ?_
            obtain rfl := (Option.some.inj h)
            exact k_J20
      · refine z_icmp_ge C0 72 dX0_priceWithout_37 (by decide) (fun c15 => ?_) (fun c15 => ?_)
        · exact absurd hc26 (fun q => q.1 c15)
        · refine z_iload C0 dX0_priceWithout_40 4 rfl ?_
          refine z_bipush (v := (32 : Int32)) C0 dX0_priceWithout_42 (by decide) ?_
          refine z_icmp_ge C0 72 dX0_priceWithout_44 (by decide) (fun c18 => ?_) (fun c18 => ?_)
          · exact absurd hc26 (fun q => (fun q => q c18) q.2)
          · exact k27
    · have h := zif_f hc26 h
      refine z_join μ14 72 [(0, .ref (zb g + a0)), (1, .ref (zb g + a1)), (2, .int v2), (3, .int x10), (4, .int y13)] [] ?_ (fun k28 => ?_)
      · refine z_sub (lo1 := []) [] rfl ?_
        obtain rfl := (Option.some.inj h)
        exact kx
      · refine z_icmp_ge C0 72 dX0_priceWithout_37 (by decide) (fun c15 => ?_) (fun c15 => ?_)
        · exact k28
        · refine z_iload C0 dX0_priceWithout_40 4 rfl ?_
          refine z_bipush (v := (32 : Int32)) C0 dX0_priceWithout_42 (by decide) ?_
          refine z_icmp_ge C0 72 dX0_priceWithout_44 (by decide) (fun c18 => ?_) (fun c18 => ?_)
          · exact k28
          · exact absurd ⟨c15, c18⟩ hc26
set_option maxHeartbeats 4000000 in
set_option maxRecDepth 100000 in
theorem r_X0_priceWithout {l : Launch} {g : zL} {κ : zK} (a0 : Nat) (a1 : Nat) (v2 : Int32) (μ : zM) (hT0 : zT zNN zσ1 a0 0) (hT1 : zT zNN zσ1 a1 1) (hSp : zSK g κ) {μr : zM} (h : f_X0_priceWithout a0 a1 v2 μ = some μr) : zMet l g yX0_priceWithout cX0_priceWithout 5 none 2 0 0 zNN zNN zσ1 zσ1 [.ref (zb g + a0), .ref (zb g + a1), .int v2] μ none μr := by
  refine zMet.of (by decide +kernel) (Nat.le_of_ble_eq_true rfl) ?_
  intro p e s m args below meth c C0
  have hF := hSp.at C0
  refine z_loc (lo1 := [(0, .ref (zb g + a0)), (1, .ref (zb g + a1)), (2, .int v2)]) rfl ?_
  unfold f_X0_priceWithout at h
  refine z_iconst (v := (0 : Int32)) C0 dX0_priceWithout_0 (by decide) ?_
  refine z_istore_n (lo1 := [(3, .int (0 : Int32)), (0, .ref (zb g + a0)), (1, .ref (zb g + a1)), (2, .int v2)]) C0 dX0_priceWithout_1 rfl (by decide) rfl ?_
  refine z_sub (lo1 := [(0, .ref (zb g + a0)), (1, .ref (zb g + a1)), (2, .int v2), (3, .int (0 : Int32))]) [1, 2, 3, 0] rfl ?_
  obtain ⟨μ9, e_μ9, h⟩ := zbd_of h
  refine r_X0_priceWithout_L2 C0 hSp a0 a1 v2 hT0 hT1 zFU (0 : Int32) μ μ9 e_μ9 ?_
  refine z_iconst (v := (1 : Int32)) C0 dX0_priceWithout_21 (by decide) ?_
  refine z_aload_n C0 dX0_priceWithout_22 rfl 1 rfl ?_
  refine z_getr C0 hT1 kf_0_50 zr_1_4 zx_1 (zs_1_4 hT1).1 dX0_priceWithout_23 ?_
  refine z_geti C0 (zs_1_4 hT1).2.1 (zs_1_4 hT1).2.2.2.1 kf_0_56 zr_6_2 dX0_priceWithout_26 ?_
  refine z_ishl C0 dX0_priceWithout_29 ?_
  obtain ⟨x10, e_x10, h⟩ := zl_of h
  refine z_nm e_x10 ?_
  refine z_istore_n (lo1 := [(3, .int x10), (0, .ref (zb g + a0)), (1, .ref (zb g + a1)), (2, .int v2)]) C0 dX0_priceWithout_30 rfl (by decide) rfl ?_
  refine z_iconst (v := (0 : Int32)) C0 dX0_priceWithout_31 (by decide) ?_
  refine z_istore (lo1 := [(4, .int (0 : Int32)), (3, .int x10), (0, .ref (zb g + a0)), (1, .ref (zb g + a1)), (2, .int v2)]) C0 dX0_priceWithout_32 (by decide) rfl ?_
  refine z_sub (lo1 := [(0, .ref (zb g + a0)), (1, .ref (zb g + a1)), (2, .int v2), (3, .int x10), (4, .int (0 : Int32))]) [2, 3, 4, 1, 0] rfl ?_
  obtain ⟨μ25, e_μ25, h⟩ := zbd_of h
  refine r_X0_priceWithout_L34 C0 hSp a0 a1 v2 x10 hT0 hT1 zFU (0 : Int32) μ9 μ25 e_μ25 ?_
  have h := Option.some.inj h
  obtain rfl := h
  exact z_vret C0 rfl dX0_priceWithout_72
def f_X0_idleMourners_L12 (a0 : Nat) (a1 : Nat) (r1 : Int32) : Nat → Int32 → Int32 → zM → Option (Int32 × zM)
  | 0, _, _, _ => none
  | n + 1, y5, y6, μ7 =>
    if (¬ ((μ7 (a1 + 8) 2) ≤ y6)) ∧ (¬ (r1 = (-1 : Int32))) then
      zbd (f_X0_priceWithout a0 a1 ((1 : Int32) <<< (y6 &&& 31)) μ7) fun μ10 =>
      zbd2 (f_X0_leastToTouch a0 a1 (1 : Int32) μ10) fun r11 μ12 =>
      zl (if ¬ r11 = r1 then
          y5
        else
          zl (y5 ||| ((1 : Int32) <<< (y6 &&& 31))) fun x15 =>
          x15) fun x16 =>
      zl (y6 + (1 : Int32)) fun x17 =>
      f_X0_idleMourners_L12 a0 a1 r1 n x16 x17 μ12
    else
      some (y5, μ7)
def f_X0_idleMourners (a0 : Nat) (a1 : Nat) (μ : zM) : Option (Int32 × zM) :=
  zbd2 (f_X0_leastToTouch a0 a1 (1 : Int32) μ) fun r1 μ2 =>
  zbd2 (f_X0_idleMourners_L12 a0 a1 r1 zFU (0 : Int32) (0 : Int32) μ2) fun x18 μ19 =>
  some (x18, μ19)
set_option maxHeartbeats 4000000 in
set_option maxRecDepth 100000 in
theorem r_X0_idleMourners_L12 {l : Launch} {g : zL} {κ : zK} {p : Program} {e : Env} {s : State} {m : MethodId} {args : Array Value} {below : List Frame} {meth : Method} {c : Code} {Q : State → Prop} (C0 : zC p s m args meth c g cX0_idleMourners yX0_idleMourners 5 (some (.int))) (hSp : zSK g κ) (a0 : Nat) (a1 : Nat) (r1 : Int32) (hU3 : zT zNN zσ1 a0 0) (hU4 : zT zNN zσ1 a1 1) : ∀ (n : Nat) (y5 : Int32) (y6 : Int32) (μ7 : zM) (x18 : Int32) (μ19 : zM), f_X0_idleMourners_L12 a0 a1 r1 n y5 y6 μ7 = some (x18, μ19) → Z p l e (zrm 4 0 0) s m args below meth c g Q 5 zNN 0 0 zσ1 μ19 61 [(3, .int x18)] [] → Z p l e (zrm 4 0 0) s m args below meth c g Q 5 zNN 0 0 zσ1 μ7 12 [(0, .ref (zb g + a0)), (1, .ref (zb g + a1)), (2, .int r1), (3, .int y5), (4, .int y6)] [] := by
  have hF := hSp.at C0
  intro n
  induction n with
  | zero =>
    intro y5 y6 μ7 x18 μ19 h kx
    rw [f_X0_idleMourners_L12] at h
    cases h
  | succ n ih =>
    intro y5 y6 μ7 x18 μ19 h kx
    rw [f_X0_idleMourners_L12] at h
    refine z_iload C0 dX0_idleMourners_12 4 rfl ?_
    refine z_aload_n C0 dX0_idleMourners_14 rfl 1 rfl ?_
    refine z_getr C0 hU4 kf_0_50 zr_1_4 zx_1 (zs_1_4 hU4).1 dX0_idleMourners_15 ?_
    refine z_geti C0 (zs_1_4 hU4).2.1 (zs_1_4 hU4).2.2.2.1 kf_0_56 zr_6_2 dX0_idleMourners_18 ?_
    by_cases hc20 : (¬ ((μ7 (a1 + 8) 2) ≤ y6)) ∧ (¬ (r1 = (-1 : Int32)))
    · have h := zif_t hc20 h
      refine z_join μ7 29 [(0, .ref (zb g + a0)), (1, .ref (zb g + a1)), (2, .int r1), (3, .int y5), (4, .int y6)] [] ?_ (fun k21 => ?_)
      · refine z_aload_n C0 dX0_idleMourners_29 rfl 0 rfl ?_
        refine z_aload_n C0 dX0_idleMourners_30 rfl 1 rfl ?_
        refine z_iconst (v := (1 : Int32)) C0 dX0_idleMourners_31 (by decide) ?_
        refine z_iload C0 dX0_idleMourners_32 4 rfl ?_
        refine z_ishl C0 dX0_idleMourners_34 ?_
        obtain ⟨μ10, e_μ10, h⟩ := zbd_of h
        refine z_callV (As := [.ref (zb g + a1), .int ((1 : Int32) <<< (y6 &&& 31))]) (rest := []) C0 rfl kc_X0_priceWithout km_RX0_47 (r_X0_priceWithout (l := l) (g := g) a0 a1 ((1 : Int32) <<< (y6 &&& 31)) μ7 hU3 hU4 hSp e_μ10) hU3.1 hU3.2.2.1 rfl (by decide) rfl (Nat.le_of_ble_eq_true rfl) (Nat.le_of_ble_eq_true rfl) (Nat.le_of_ble_eq_true rfl) (Nat.le_of_ble_eq_true rfl) (Nat.le_refl _) rfl rfl dX0_idleMourners_35 ?_
        refine z_aload_n C0 dX0_idleMourners_38 rfl 0 rfl ?_
        refine z_aload_n C0 dX0_idleMourners_39 rfl 1 rfl ?_
        refine z_iconst (v := (1 : Int32)) C0 dX0_idleMourners_40 (by decide) ?_
        obtain ⟨r11, μ12, e_r11, h⟩ := zbd2_of h
        refine z_callV (As := [.ref (zb g + a1), .int (1 : Int32)]) (rest := []) C0 rfl kc_X0_leastToTouch km_RX0_145 (r_X0_leastToTouch (l := l) (g := g) a0 a1 (1 : Int32) μ10 hU3 hU4 e_r11) hU3.1 hU3.2.2.1 rfl (by decide) rfl (Nat.le_of_ble_eq_true rfl) (Nat.le_of_ble_eq_true rfl) (Nat.le_of_ble_eq_true rfl) (Nat.le_of_ble_eq_true rfl) (Nat.le_refl _) rfl rfl dX0_idleMourners_41 ?_
        refine z_iload_n C0 dX0_idleMourners_44 rfl 2 rfl ?_
        obtain ⟨x16, e_x16, h⟩ := zl_of h
        refine z_join μ12 55 [(0, .ref (zb g + a0)), (1, .ref (zb g + a1)), (2, .int r1), (3, .int x16), (4, .int y6)] [] ?_ (fun k_J14 => ?_)
        · obtain ⟨x17, e_x17, h⟩ := zl_of h
          refine z_iinc (lo1 := [(4, .int x17), (0, .ref (zb g + a0)), (1, .ref (zb g + a1)), (2, .int r1), (3, .int x16)]) C0 dX0_idleMourners_55 4 rfl (by decide) e_x17.symm (by decide) rfl ?_
          refine z_goto C0 12 dX0_idleMourners_58 (by decide) ?_
          refine z_sub (lo1 := [(0, .ref (zb g + a0)), (1, .ref (zb g + a1)), (2, .int r1), (3, .int x16), (4, .int x17)]) [1, 2, 3, 4, 0] rfl ?_
          exact ih _ _ _ _ _ h kx
        · have h := e_x16.symm
          refine z_icmp_ne C0 55 dX0_idleMourners_45 (by decide) (fun c13 => ?_) (fun c13 => ?_)
          · have h := zif_t c13 h
            obtain rfl := h
            exact k_J14
          · have h := zif_f (fun q => q c13) h
            refine z_iload_n C0 dX0_idleMourners_48 rfl 3 rfl ?_
            refine z_iconst (v := (1 : Int32)) C0 dX0_idleMourners_49 (by decide) ?_
            refine z_iload C0 dX0_idleMourners_50 4 rfl ?_
            refine z_ishl C0 dX0_idleMourners_52 ?_
            refine z_ior C0 dX0_idleMourners_53 ?_
            obtain ⟨x15, e_x15, h⟩ := zl_of h
            refine z_nm e_x15 ?_
            refine z_istore_n (lo1 := [(3, .int x15), (0, .ref (zb g + a0)), (1, .ref (zb g + a1)), (2, .int r1), (4, .int y6)]) C0 dX0_idleMourners_54 rfl (by decide) rfl ?_
            refine z_sub (lo1 := [(0, .ref (zb g + a0)), (1, .ref (zb g + a1)), (2, .int r1), (3, .int x15), (4, .int y6)]) [1, 2, 3, 0, 4] rfl ?_
            obtain rfl := h
            exact k_J14
      · refine z_icmp_ge C0 61 dX0_idleMourners_21 (by decide) (fun c8 => ?_) (fun c8 => ?_)
        · exact absurd hc20 (fun q => q.1 c8)
        · refine z_iload_n C0 dX0_idleMourners_24 rfl 2 rfl ?_
          refine z_iconst (v := (-1 : Int32)) C0 dX0_idleMourners_25 (by decide) ?_
          refine z_icmp_eq C0 61 dX0_idleMourners_26 (by decide) (fun c9 => ?_) (fun c9 => ?_)
          · exact absurd hc20 (fun q => (fun q => q c9) q.2)
          · exact k21
    · have h := zif_f hc20 h
      refine z_join μ7 61 [(0, .ref (zb g + a0)), (1, .ref (zb g + a1)), (2, .int r1), (3, .int y5), (4, .int y6)] [] ?_ (fun k22 => ?_)
      · refine z_sub (lo1 := [(3, .int y5)]) [3] rfl ?_
        obtain ⟨rfl, rfl⟩ := Prod.mk.inj (Option.some.inj h)
        exact kx
      · refine z_icmp_ge C0 61 dX0_idleMourners_21 (by decide) (fun c8 => ?_) (fun c8 => ?_)
        · exact k22
        · refine z_iload_n C0 dX0_idleMourners_24 rfl 2 rfl ?_
          refine z_iconst (v := (-1 : Int32)) C0 dX0_idleMourners_25 (by decide) ?_
          refine z_icmp_eq C0 61 dX0_idleMourners_26 (by decide) (fun c9 => ?_) (fun c9 => ?_)
          · exact k22
          · exact absurd ⟨c8, c9⟩ hc20
set_option maxHeartbeats 4000000 in
set_option maxRecDepth 100000 in
theorem r_X0_idleMourners {l : Launch} {g : zL} {κ : zK} (a0 : Nat) (a1 : Nat) (μ : zM) (hT0 : zT zNN zσ1 a0 0) (hT1 : zT zNN zσ1 a1 1) (hSp : zSK g κ) {rv : Int32} {μr : zM} (h : f_X0_idleMourners a0 a1 μ = some (rv, μr)) : zMet l g yX0_idleMourners cX0_idleMourners 5 (some (.int)) 4 0 0 zNN zNN zσ1 zσ1 [.ref (zb g + a0), .ref (zb g + a1)] μ (some (.int rv)) μr := by
  refine zMet.of (by decide +kernel) (Nat.le_of_ble_eq_true rfl) ?_
  intro p e s m args below meth c C0
  have hF := hSp.at C0
  refine z_loc (lo1 := [(0, .ref (zb g + a0)), (1, .ref (zb g + a1))]) rfl ?_
  unfold f_X0_idleMourners at h
  refine z_aload_n C0 dX0_idleMourners_0 rfl 0 rfl ?_
  refine z_aload_n C0 dX0_idleMourners_1 rfl 1 rfl ?_
  refine z_iconst (v := (1 : Int32)) C0 dX0_idleMourners_2 (by decide) ?_
  obtain ⟨r1, μ2, e_r1, h⟩ := zbd2_of h
  refine z_callV (As := [.ref (zb g + a1), .int (1 : Int32)]) (rest := []) C0 rfl kc_X0_leastToTouch km_RX0_145 (r_X0_leastToTouch (l := l) (g := g) a0 a1 (1 : Int32) μ hT0 hT1 e_r1) hT0.1 hT0.2.2.1 rfl (by decide) rfl (Nat.le_of_ble_eq_true rfl) (Nat.le_of_ble_eq_true rfl) (Nat.le_of_ble_eq_true rfl) (Nat.le_of_ble_eq_true rfl) (Nat.le_refl _) rfl rfl dX0_idleMourners_3 ?_
  refine z_istore_n (lo1 := [(2, .int r1), (0, .ref (zb g + a0)), (1, .ref (zb g + a1))]) C0 dX0_idleMourners_6 rfl (by decide) rfl ?_
  refine z_iconst (v := (0 : Int32)) C0 dX0_idleMourners_7 (by decide) ?_
  refine z_istore_n (lo1 := [(3, .int (0 : Int32)), (2, .int r1), (0, .ref (zb g + a0)), (1, .ref (zb g + a1))]) C0 dX0_idleMourners_8 rfl (by decide) rfl ?_
  refine z_iconst (v := (0 : Int32)) C0 dX0_idleMourners_9 (by decide) ?_
  refine z_istore (lo1 := [(4, .int (0 : Int32)), (3, .int (0 : Int32)), (2, .int r1), (0, .ref (zb g + a0)), (1, .ref (zb g + a1))]) C0 dX0_idleMourners_10 (by decide) rfl ?_
  refine z_sub (lo1 := [(0, .ref (zb g + a0)), (1, .ref (zb g + a1)), (2, .int r1), (3, .int (0 : Int32)), (4, .int (0 : Int32))]) [3, 4, 2, 1, 0] rfl ?_
  obtain ⟨x18, μ19, e_x18, h⟩ := zbd2_of h
  refine r_X0_idleMourners_L12 C0 hSp a0 a1 r1 hT0 hT1 zFU (0 : Int32) (0 : Int32) μ2 x18 μ19 e_x18 ?_
  refine z_iload_n C0 dX0_idleMourners_61 rfl 0 rfl ?_
  have h := Option.some.inj h
  obtain ⟨rfl, rfl⟩ := Prod.mk.inj h
  exact z_iret C0 rfl dX0_idleMourners_62
def f_X0_isReached (a0 : Nat) (v1 : Int32) (v2 : Int32) (μ : zM) : Option (Int32) :=
  zg (zin (f_X0_cellOf v1 v2) 144) <|
  zg (z01 (μ (a0 + 6) ((f_X0_cellOf v1 v2).toNatClampNeg))) <|
  some (μ (a0 + 6) ((f_X0_cellOf v1 v2).toNatClampNeg))
set_option maxHeartbeats 4000000 in
set_option maxRecDepth 100000 in
theorem r_X0_isReached {l : Launch} {g : zL} (a0 : Nat) (v1 : Int32) (v2 : Int32) (μ : zM) (hT0 : zT zNN zσ1 a0 0) {rv : Int32} (h : f_X0_isReached a0 v1 v2 μ = some rv) : zMet l g yX0_isReached cX0_isReached 3 (some (.boolean)) 1 0 0 zNN zNN zσ1 zσ1 [.ref (zb g + a0), .int v1, .int v2] μ (some (.int rv)) μ := by
  refine zMet.of (by decide +kernel) (Nat.le_of_ble_eq_true rfl) ?_
  intro p e s m args below meth c C0
  refine z_loc (lo1 := [(0, .ref (zb g + a0)), (1, .int v1), (2, .int v2)]) rfl ?_
  unfold f_X0_isReached at h
  refine z_aload_n C0 dX0_isReached_0 rfl 0 rfl ?_
  refine z_getr C0 hT0 kf_0_27 zr_0_5 zx_0 (zs_0_5 hT0).1 dX0_isReached_1 ?_
  refine z_iload_n C0 dX0_isReached_4 rfl 1 rfl ?_
  refine z_iload_n C0 dX0_isReached_5 rfl 2 rfl ?_
  refine z_callS (As := [.int v1, .int v2]) (rest := [.ref (zb g + (a0 + 6))]) C0 rfl kc_X0_cellOf km_RX0_118 (r_X0_cellOf (l := l) (g := g) (μ := μ) v1 v2 rfl) rfl (Nat.le_of_ble_eq_true rfl) (Nat.le_of_ble_eq_true rfl) (Nat.le_of_ble_eq_true rfl) (Nat.le_of_ble_eq_true rfl) (Nat.le_refl _) rfl rfl dX0_isReached_6 ?_
  obtain ⟨g1, h⟩ := zg_of h
  refine z_bald C0 (zs_0_5 hT0).2 g1 rfl dX0_isReached_9 ?_
  obtain ⟨g2, h⟩ := zg_of h
  have h := Option.some.inj h
  obtain rfl := h
  exact z_zret C0 rfl g2 dX0_isReached_10
def f_X0_leastToLie_L13 (a0 : Nat) (v2 : Int32) (v3 : Int32) (μ5 : zM) : Nat → Int32 → Int32 → Option (Int32)
  | 0, _, _ => none
  | n + 1, y3, y4 =>
    if (4 : Int32) ≤ y4 then
      some y3
    else
      zg (zin (((f_X0_cellOf v2 v3) * (4 : Int32)) + y4) 576) <|
      zl (zmin y3 (μ5 (a0 + 5) ((((f_X0_cellOf v2 v3) * (4 : Int32)) + y4).toNatClampNeg))) fun x8 =>
      zl (y4 + (1 : Int32)) fun x9 =>
      f_X0_leastToLie_L13 a0 v2 v3 μ5 n x8 x9
def f_X0_leastToLie (a0 : Nat) (a1 : Nat) (v2 : Int32) (v3 : Int32) (μ : zM) : Option (Int32 × zM) :=
  zbd (f_X0_findLeast a0 a1 (0 : Int32) μ) fun μ1 =>
  zbd (f_X0_leastToLie_L13 a0 v2 v3 μ1 zFU (1000000 : Int32) (0 : Int32)) fun x10 =>
  zl (if ¬ x10 = (1000000 : Int32) then
      x10
    else
      (-1 : Int32)) fun x13 =>
  some (x13, μ1)
set_option maxHeartbeats 4000000 in
set_option maxRecDepth 100000 in
theorem r_X0_leastToLie_L13 {l : Launch} {g : zL} {p : Program} {e : Env} {s : State} {m : MethodId} {args : Array Value} {below : List Frame} {meth : Method} {c : Code} {Q : State → Prop} (C0 : zC p s m args meth c g cX0_leastToLie yX0_leastToLie 6 (some (.int))) (a0 : Nat) (v2 : Int32) (v3 : Int32) (μ5 : zM) (hU2 : zT zNN zσ1 a0 0) : ∀ (n : Nat) (y3 : Int32) (y4 : Int32) (x10 : Int32), f_X0_leastToLie_L13 a0 v2 v3 μ5 n y3 y4 = some x10 → Z p l e (zrm 3 0 0) s m args below meth c g Q 6 zNN 0 0 zσ1 μ5 47 [(4, .int x10)] [] → Z p l e (zrm 3 0 0) s m args below meth c g Q 6 zNN 0 0 zσ1 μ5 13 [(0, .ref (zb g + a0)), (2, .int v2), (3, .int v3), (4, .int y3), (5, .int y4)] [] := by
  intro n
  induction n with
  | zero =>
    intro y3 y4 x10 h kx
    rw [f_X0_leastToLie_L13] at h
    cases h
  | succ n ih =>
    intro y3 y4 x10 h kx
    rw [f_X0_leastToLie_L13] at h
    refine z_iload C0 dX0_leastToLie_13 4 rfl ?_
    refine z_iconst (v := (4 : Int32)) C0 dX0_leastToLie_15 (by decide) ?_
    refine z_icmp_ge C0 47 dX0_leastToLie_16 (by decide) (fun c6 => ?_) (fun c6 => ?_)
    · have h := zif_t c6 h
      refine z_sub (lo1 := [(4, .int y3)]) [3] rfl ?_
      obtain rfl := (Option.some.inj h)
      exact kx
    · have h := zif_f c6 h
      refine z_iload C0 dX0_leastToLie_19 3 rfl ?_
      refine z_aload_n C0 dX0_leastToLie_21 rfl 0 rfl ?_
      refine z_getr C0 hU2 kf_0_24 zr_0_4 zx_0 (zs_0_4 hU2).1 dX0_leastToLie_22 ?_
      refine z_iload_n C0 dX0_leastToLie_25 rfl 1 rfl ?_
      refine z_iload_n C0 dX0_leastToLie_26 rfl 2 rfl ?_
      refine z_callS (As := [.int v2, .int v3]) (rest := [.ref (zb g + (a0 + 5)), .int y3]) C0 rfl kc_X0_cellOf km_RX0_118 (r_X0_cellOf (l := l) (g := g) (μ := μ5) v2 v3 rfl) rfl (Nat.le_of_ble_eq_true rfl) (Nat.le_of_ble_eq_true rfl) (Nat.le_of_ble_eq_true rfl) (Nat.le_of_ble_eq_true rfl) (Nat.le_refl _) rfl rfl dX0_leastToLie_27 ?_
      refine z_iconst (v := (4 : Int32)) C0 dX0_leastToLie_30 (by decide) ?_
      refine z_imul C0 dX0_leastToLie_31 ?_
      refine z_iload C0 dX0_leastToLie_32 4 rfl ?_
      refine z_iadd C0 dX0_leastToLie_34 ?_
      obtain ⟨g7, h⟩ := zg_of h
      refine z_iald C0 (zs_0_4 hU2).2 g7 rfl dX0_leastToLie_35 ?_
      refine z_mmin C0 rfl kM_RX0_140 kM_min (Nat.le_of_ble_eq_true rfl) (Nat.zero_le _) (Nat.zero_le _) dX0_leastToLie_36 ?_
      obtain ⟨x8, e_x8, h⟩ := zl_of h
      refine z_nm e_x8 ?_
      refine z_istore (lo1 := [(4, .int x8), (0, .ref (zb g + a0)), (2, .int v2), (3, .int v3), (5, .int y4)]) C0 dX0_leastToLie_39 (by decide) rfl ?_
      obtain ⟨x9, e_x9, h⟩ := zl_of h
      refine z_iinc (lo1 := [(5, .int x9), (4, .int x8), (0, .ref (zb g + a0)), (2, .int v2), (3, .int v3)]) C0 dX0_leastToLie_41 4 rfl (by decide) e_x9.symm (by decide) rfl ?_
      refine z_goto C0 13 dX0_leastToLie_44 (by decide) ?_
      refine z_sub (lo1 := [(0, .ref (zb g + a0)), (2, .int v2), (3, .int v3), (4, .int x8), (5, .int x9)]) [2, 3, 4, 1, 0] rfl ?_
      exact ih _ _ _ h kx
set_option maxHeartbeats 4000000 in
set_option maxRecDepth 100000 in
theorem r_X0_leastToLie {l : Launch} {g : zL} (a0 : Nat) (a1 : Nat) (v2 : Int32) (v3 : Int32) (μ : zM) (hT0 : zT zNN zσ1 a0 0) (hT1 : zT zNN zσ1 a1 1) {rv : Int32} {μr : zM} (h : f_X0_leastToLie a0 a1 v2 v3 μ = some (rv, μr)) : zMet l g yX0_leastToLie cX0_leastToLie 6 (some (.int)) 3 0 0 zNN zNN zσ1 zσ1 [.ref (zb g + a0), .ref (zb g + a1), .int v2, .int v3] μ (some (.int rv)) μr := by
  refine zMet.of (by decide +kernel) (Nat.le_of_ble_eq_true rfl) ?_
  intro p e s m args below meth c C0
  refine z_loc (lo1 := [(0, .ref (zb g + a0)), (1, .ref (zb g + a1)), (2, .int v2), (3, .int v3)]) rfl ?_
  unfold f_X0_leastToLie at h
  refine z_aload_n C0 dX0_leastToLie_0 rfl 0 rfl ?_
  refine z_aload_n C0 dX0_leastToLie_1 rfl 1 rfl ?_
  refine z_iconst (v := (0 : Int32)) C0 dX0_leastToLie_2 (by decide) ?_
  obtain ⟨μ1, e_μ1, h⟩ := zbd_of h
  refine z_callV (As := [.ref (zb g + a1), .int (0 : Int32)]) (rest := []) C0 rfl kc_X0_findLeast km_RX0_136 (r_X0_findLeast (l := l) (g := g) a0 a1 (0 : Int32) μ hT0 hT1 e_μ1) hT0.1 hT0.2.2.1 rfl (by decide) rfl (Nat.le_of_ble_eq_true rfl) (Nat.le_of_ble_eq_true rfl) (Nat.le_of_ble_eq_true rfl) (Nat.le_of_ble_eq_true rfl) (Nat.le_refl _) rfl rfl dX0_leastToLie_3 ?_
  refine z_ldc C0 dX0_leastToLie_6 kk_RX0_131 ?_
  refine z_istore (lo1 := [(4, .int (1000000 : Int32)), (0, .ref (zb g + a0)), (1, .ref (zb g + a1)), (2, .int v2), (3, .int v3)]) C0 dX0_leastToLie_8 (by decide) rfl ?_
  refine z_iconst (v := (0 : Int32)) C0 dX0_leastToLie_10 (by decide) ?_
  refine z_istore (lo1 := [(5, .int (0 : Int32)), (4, .int (1000000 : Int32)), (0, .ref (zb g + a0)), (1, .ref (zb g + a1)), (2, .int v2), (3, .int v3)]) C0 dX0_leastToLie_11 (by decide) rfl ?_
  refine z_sub (lo1 := [(0, .ref (zb g + a0)), (2, .int v2), (3, .int v3), (4, .int (1000000 : Int32)), (5, .int (0 : Int32))]) [2, 4, 5, 1, 0] rfl ?_
  obtain ⟨x10, e_x10, h⟩ := zbd_of h
  refine r_X0_leastToLie_L13 C0 a0 v2 v3 μ1 hT0 zFU (1000000 : Int32) (0 : Int32) x10 e_x10 ?_
  refine z_iload C0 dX0_leastToLie_47 0 rfl ?_
  refine z_ldc C0 dX0_leastToLie_49 kk_RX0_131 ?_
  obtain ⟨x13, e_x13, h⟩ := zl_of h
  refine z_join μ1 60 [] [.int x13] ?_ (fun k_J12 => ?_)
  · have h := Option.some.inj h
    obtain ⟨rfl, rfl⟩ := Prod.mk.inj h
    exact z_iret C0 rfl dX0_leastToLie_60
  · have h := e_x13.symm
    refine z_icmp_ne C0 58 dX0_leastToLie_51 (by decide) (fun c11 => ?_) (fun c11 => ?_)
    · have h := zif_t c11 h
      refine z_iload C0 dX0_leastToLie_58 0 rfl ?_
      refine z_sub (lo1 := []) [] rfl ?_
      obtain rfl := h
      exact k_J12
    · have h := zif_f (fun q => q c11) h
      refine z_iconst (v := (-1 : Int32)) C0 dX0_leastToLie_54 (by decide) ?_
      refine z_goto C0 60 dX0_leastToLie_55 (by decide) ?_
      refine z_sub (lo1 := []) [] rfl ?_
      obtain rfl := h
      exact k_J12
def f_X0_priceOf (a0 : Nat) (v1 : Int32) (v2 : Int32) (μ : zM) : Option (Int32) :=
  zg (zin (f_X0_driftOf v1 v2) 9) <|
  some (μ (a0 + 2) ((f_X0_driftOf v1 v2).toNatClampNeg))
set_option maxHeartbeats 4000000 in
set_option maxRecDepth 100000 in
theorem r_X0_priceOf {l : Launch} {g : zL} (a0 : Nat) (v1 : Int32) (v2 : Int32) (μ : zM) (hT0 : zT zNN zσ1 a0 0) {rv : Int32} (h : f_X0_priceOf a0 v1 v2 μ = some rv) : zMet l g yX0_priceOf cX0_priceOf 3 (some (.int)) 1 0 0 zNN zNN zσ1 zσ1 [.ref (zb g + a0), .int v1, .int v2] μ (some (.int rv)) μ := by
  refine zMet.of (by decide +kernel) (Nat.le_of_ble_eq_true rfl) ?_
  intro p e s m args below meth c C0
  refine z_loc (lo1 := [(0, .ref (zb g + a0)), (1, .int v1), (2, .int v2)]) rfl ?_
  unfold f_X0_priceOf at h
  refine z_aload_n C0 dX0_priceOf_0 rfl 0 rfl ?_
  refine z_getr C0 hT0 kf_0_15 zr_0_1 zx_0 (zs_0_1 hT0).1 dX0_priceOf_1 ?_
  refine z_iload_n C0 dX0_priceOf_4 rfl 1 rfl ?_
  refine z_iload_n C0 dX0_priceOf_5 rfl 2 rfl ?_
  refine z_callS (As := [.int v1, .int v2]) (rest := [.ref (zb g + (a0 + 2))]) C0 rfl kc_X0_driftOf km_RX0_88 (r_X0_driftOf (l := l) (g := g) (μ := μ) v1 v2 rfl) rfl (Nat.le_of_ble_eq_true rfl) (Nat.le_of_ble_eq_true rfl) (Nat.le_of_ble_eq_true rfl) (Nat.le_of_ble_eq_true rfl) (Nat.le_refl _) rfl rfl dX0_priceOf_6 ?_
  obtain ⟨g1, h⟩ := zg_of h
  refine z_iald C0 (zs_0_1 hT0).2 g1 rfl dX0_priceOf_9 ?_
  have h := Option.some.inj h
  obtain rfl := h
  exact z_iret C0 rfl dX0_priceOf_10
def f_X0_spread_L2 (a0 : Nat) (a1 : Nat) (v2 : Int32) : Nat → Int32 → zM → Option (zM)
  | 0, _, _ => none
  | n + 1, y3, μ4 =>
    if (144 : Int32) ≤ y3 then
      some μ4
    else
      zl (if ¬ y3 = (f_X0_startOf a1 μ4) then
          (0 : Int32)
        else
          (1 : Int32)) fun x8 =>
      zg (zin y3 144) <|
      zl (zup μ4 (a0 + 6) (y3.toNatClampNeg) (znb x8)) fun μ10 =>
      zl (y3 + (1 : Int32)) fun x11 =>
      f_X0_spread_L2 a0 a1 v2 n x11 μ10
def f_X0_spread_L44 (a0 : Nat) (v2 : Int32) (y14 : Int32) : Nat → Int32 → zM → Option (zM)
  | 0, _, _ => none
  | n + 1, y18, μ19 =>
    if (144 : Int32) ≤ y18 then
      some μ19
    else
      zg (zin y18 144) <|
      zl (zup μ19 (a0 + 7) (y18.toNatClampNeg) (znb (0 : Int32))) fun μ22 =>
      zl (y18 + (1 : Int32)) fun x23 =>
      f_X0_spread_L44 a0 v2 y14 n x23 μ22
def f_X0_spread_L69 (a0 : Nat) (v2 : Int32) (y14 : Int32) : Nat → Int32 → zM → Option (zM)
  | 0, _, _ => none
  | n + 1, y26, μ27 =>
    if (1296 : Int32) ≤ y26 then
      some μ27
    else
      zg (zin (y26 / (9 : Int32)) 144) <|
      zbd (zbd (if (μ27 (a0 + 6) ((y26 / (9 : Int32)).toNatClampNeg)) = 0 then
            some false
          else
            zg (zin (y26 % (9 : Int32)) 9) <|
            if (μ27 (a0 + 2) ((y26 % (9 : Int32)).toNatClampNeg)) = (-1 : Int32) then
              some false
            else
              some true) fun b41 =>
        if b41 = true then
          zg (zin y26 1296) <|
          zg (zin (μ27 (a0 + 3) (y26.toNatClampNeg)) 144) <|
          zl (zup μ27 (a0 + 7) ((μ27 (a0 + 3) (y26.toNatClampNeg)).toNatClampNeg) (znb (1 : Int32))) fun μ45 =>
          some μ45
        else
          some μ27) fun μ46 =>
      zl (y26 + (1 : Int32)) fun x47 =>
      f_X0_spread_L69 a0 v2 y14 n x47 μ46
def f_X0_spread_L36 (a0 : Nat) (v2 : Int32) : Nat → Int32 → zM → Option (zM)
  | 0, _, _ => none
  | n + 1, y14, μ15 =>
    if v2 ≤ y14 then
      some μ15
    else
      zbd (f_X0_spread_L44 a0 v2 y14 zFU (0 : Int32) μ15) fun μ24 =>
      zbd (f_X0_spread_L69 a0 v2 y14 zFU (0 : Int32) μ24) fun μ48 =>
      zg (zcpg (0 : Int32) (0 : Int32) (144 : Int32) 144 144) <|
      zg (zcpb μ48 (a0 + 7) (0 : Int32) (144 : Int32)) <|
      zl (zcp μ48 (a0 + 7) (a0 + 6) (0 : Int32) (0 : Int32) (144 : Int32)) fun μ51 =>
      zl (y14 + (1 : Int32)) fun x52 =>
      f_X0_spread_L36 a0 v2 n x52 μ51
def f_X0_spread (a0 : Nat) (a1 : Nat) (v2 : Int32) (μ : zM) : Option (zM) :=
  zbd (f_X0_spread_L2 a0 a1 v2 zFU (0 : Int32) μ) fun μ12 =>
  zbd (f_X0_spread_L36 a0 v2 zFU (0 : Int32) μ12) fun μ53 =>
  some μ53
set_option maxHeartbeats 4000000 in
set_option maxRecDepth 100000 in
theorem r_X0_spread_L2 {l : Launch} {g : zL} {p : Program} {e : Env} {s : State} {m : MethodId} {args : Array Value} {below : List Frame} {meth : Method} {c : Code} {Q : State → Prop} (C0 : zC p s m args meth c g cX0_spread yX0_spread 5 none) (a0 : Nat) (a1 : Nat) (v2 : Int32) (hU1 : zT zNN zσ1 a0 0) (hU2 : zT zNN zσ1 a1 1) : ∀ (n : Nat) (y3 : Int32) (μ4 : zM) (μ12 : zM), f_X0_spread_L2 a0 a1 v2 n y3 μ4 = some μ12 → Z p l e (zrm 2 0 0) s m args below meth c g Q 5 zNN 0 0 zσ1 μ12 34 [(0, .ref (zb g + a0)), (2, .int v2)] [] → Z p l e (zrm 2 0 0) s m args below meth c g Q 5 zNN 0 0 zσ1 μ4 2 [(0, .ref (zb g + a0)), (1, .ref (zb g + a1)), (2, .int v2), (3, .int y3)] [] := by
  intro n
  induction n with
  | zero =>
    intro y3 μ4 μ12 h kx
    rw [f_X0_spread_L2] at h
    cases h
  | succ n ih =>
    intro y3 μ4 μ12 h kx
    rw [f_X0_spread_L2] at h
    refine z_iload_n C0 dX0_spread_2 rfl 3 rfl ?_
    refine z_sipush (v := (144 : Int32)) C0 dX0_spread_3 (by decide) ?_
    refine z_icmp_ge C0 34 dX0_spread_6 (by decide) (fun c5 => ?_) (fun c5 => ?_)
    · have h := zif_t c5 h
      refine z_sub (lo1 := [(0, .ref (zb g + a0)), (2, .int v2)]) [0, 2] rfl ?_
      obtain rfl := (Option.some.inj h)
      exact kx
    · have h := zif_f c5 h
      refine z_aload_n C0 dX0_spread_9 rfl 0 rfl ?_
      refine z_getr C0 hU1 kf_0_27 zr_0_5 zx_0 (zs_0_5 hU1).1 dX0_spread_10 ?_
      refine z_iload_n C0 dX0_spread_13 rfl 3 rfl ?_
      refine z_iload_n C0 dX0_spread_14 rfl 3 rfl ?_
      refine z_aload_n C0 dX0_spread_15 rfl 1 rfl ?_
      refine z_callS (As := [.ref (zb g + a1)]) (rest := [.int y3, .int y3, .ref (zb g + (a0 + 6))]) C0 rfl kc_X0_startOf km_RX0_121 (r_X0_startOf (l := l) (g := g) a1 μ4 hU2 rfl) rfl (Nat.le_of_ble_eq_true rfl) (Nat.le_of_ble_eq_true rfl) (Nat.le_of_ble_eq_true rfl) (Nat.le_of_ble_eq_true rfl) (Nat.le_refl _) rfl rfl dX0_spread_16 ?_
      obtain ⟨x8, e_x8, h⟩ := zl_of h
      refine z_join μ4 27 [(0, .ref (zb g + a0)), (1, .ref (zb g + a1)), (2, .int v2), (3, .int y3)] [.int x8, .int y3, .ref (zb g + (a0 + 6))] ?_ (fun k_J7 => ?_)
      · obtain ⟨g9, h⟩ := zg_of h
        obtain ⟨μ10, e_μ10, h⟩ := zl_of h
        refine z_bast C0 (zs_0_5 hU1).2 g9 rfl e_μ10 dX0_spread_27 ?_
        obtain ⟨x11, e_x11, h⟩ := zl_of h
        refine z_iinc (lo1 := [(3, .int x11), (0, .ref (zb g + a0)), (1, .ref (zb g + a1)), (2, .int v2)]) C0 dX0_spread_28 3 rfl (by decide) e_x11.symm (by decide) rfl ?_
        refine z_goto C0 2 dX0_spread_31 (by decide) ?_
        refine z_sub (lo1 := [(0, .ref (zb g + a0)), (1, .ref (zb g + a1)), (2, .int v2), (3, .int x11)]) [1, 2, 3, 0] rfl ?_
        exact ih _ _ _ h kx
      · have h := e_x8.symm
        refine z_icmp_ne C0 26 dX0_spread_19 (by decide) (fun c6 => ?_) (fun c6 => ?_)
        · have h := zif_t c6 h
          refine z_iconst (v := (0 : Int32)) C0 dX0_spread_26 (by decide) ?_
          obtain rfl := h
          exact k_J7
        · have h := zif_f (fun q => q c6) h
          refine z_iconst (v := (1 : Int32)) C0 dX0_spread_22 (by decide) ?_
          refine z_goto C0 27 dX0_spread_23 (by decide) ?_
          obtain rfl := h
          exact k_J7
set_option maxHeartbeats 4000000 in
set_option maxRecDepth 100000 in
theorem r_X0_spread_L44 {l : Launch} {g : zL} {p : Program} {e : Env} {s : State} {m : MethodId} {args : Array Value} {below : List Frame} {meth : Method} {c : Code} {Q : State → Prop} (C0 : zC p s m args meth c g cX0_spread yX0_spread 5 none) (a0 : Nat) (v2 : Int32) (y14 : Int32) (hU17 : zT zNN zσ1 a0 0) : ∀ (n : Nat) (y18 : Int32) (μ19 : zM) (μ24 : zM), f_X0_spread_L44 a0 v2 y14 n y18 μ19 = some μ24 → Z p l e (zrm 2 0 0) s m args below meth c g Q 5 zNN 0 0 zσ1 μ24 66 [(0, .ref (zb g + a0)), (2, .int v2), (3, .int y14)] [] → Z p l e (zrm 2 0 0) s m args below meth c g Q 5 zNN 0 0 zσ1 μ19 44 [(0, .ref (zb g + a0)), (2, .int v2), (3, .int y14), (4, .int y18)] [] := by
  intro n
  induction n with
  | zero =>
    intro y18 μ19 μ24 h kx
    rw [f_X0_spread_L44] at h
    cases h
  | succ n ih =>
    intro y18 μ19 μ24 h kx
    rw [f_X0_spread_L44] at h
    refine z_iload C0 dX0_spread_44 3 rfl ?_
    refine z_sipush (v := (144 : Int32)) C0 dX0_spread_46 (by decide) ?_
    refine z_icmp_ge C0 66 dX0_spread_49 (by decide) (fun c20 => ?_) (fun c20 => ?_)
    · have h := zif_t c20 h
      refine z_sub (lo1 := [(0, .ref (zb g + a0)), (2, .int v2), (3, .int y14)]) [0, 1, 2] rfl ?_
      obtain rfl := (Option.some.inj h)
      exact kx
    · have h := zif_f c20 h
      refine z_aload_n C0 dX0_spread_52 rfl 0 rfl ?_
      refine z_getr C0 hU17 kf_0_31 zr_0_6 zx_0 (zs_0_6 hU17).1 dX0_spread_53 ?_
      refine z_iload C0 dX0_spread_56 3 rfl ?_
      refine z_iconst (v := (0 : Int32)) C0 dX0_spread_58 (by decide) ?_
      obtain ⟨g21, h⟩ := zg_of h
      obtain ⟨μ22, e_μ22, h⟩ := zl_of h
      refine z_bast C0 (zs_0_6 hU17).2 g21 rfl e_μ22 dX0_spread_59 ?_
      obtain ⟨x23, e_x23, h⟩ := zl_of h
      refine z_iinc (lo1 := [(4, .int x23), (0, .ref (zb g + a0)), (2, .int v2), (3, .int y14)]) C0 dX0_spread_60 3 rfl (by decide) e_x23.symm (by decide) rfl ?_
      refine z_goto C0 44 dX0_spread_63 (by decide) ?_
      refine z_sub (lo1 := [(0, .ref (zb g + a0)), (2, .int v2), (3, .int y14), (4, .int x23)]) [1, 2, 3, 0] rfl ?_
      exact ih _ _ _ h kx
set_option maxHeartbeats 4000000 in
set_option maxRecDepth 100000 in
theorem r_X0_spread_L69 {l : Launch} {g : zL} {p : Program} {e : Env} {s : State} {m : MethodId} {args : Array Value} {below : List Frame} {meth : Method} {c : Code} {Q : State → Prop} (C0 : zC p s m args meth c g cX0_spread yX0_spread 5 none) (a0 : Nat) (v2 : Int32) (y14 : Int32) (hU25 : zT zNN zσ1 a0 0) : ∀ (n : Nat) (y26 : Int32) (μ27 : zM) (μ48 : zM), f_X0_spread_L69 a0 v2 y14 n y26 μ27 = some μ48 → Z p l e (zrm 2 0 0) s m args below meth c g Q 5 zNN 0 0 zσ1 μ48 123 [(0, .ref (zb g + a0)), (2, .int v2), (3, .int y14)] [] → Z p l e (zrm 2 0 0) s m args below meth c g Q 5 zNN 0 0 zσ1 μ27 69 [(0, .ref (zb g + a0)), (2, .int v2), (3, .int y14), (4, .int y26)] [] := by
  intro n
  induction n with
  | zero =>
    intro y26 μ27 μ48 h kx
    rw [f_X0_spread_L69] at h
    cases h
  | succ n ih =>
    intro y26 μ27 μ48 h kx
    rw [f_X0_spread_L69] at h
    refine z_iload C0 dX0_spread_69 3 rfl ?_
    refine z_sipush (v := (1296 : Int32)) C0 dX0_spread_71 (by decide) ?_
    refine z_icmp_ge C0 123 dX0_spread_74 (by decide) (fun c28 => ?_) (fun c28 => ?_)
    · have h := zif_t c28 h
      refine z_sub (lo1 := [(0, .ref (zb g + a0)), (2, .int v2), (3, .int y14)]) [0, 1, 2] rfl ?_
      obtain rfl := (Option.some.inj h)
      exact kx
    · have h := zif_f c28 h
      refine z_aload_n C0 dX0_spread_77 rfl 0 rfl ?_
      refine z_getr C0 hU25 kf_0_27 zr_0_5 zx_0 (zs_0_5 hU25).1 dX0_spread_78 ?_
      refine z_iload C0 dX0_spread_81 3 rfl ?_
      refine z_bipush (v := (9 : Int32)) C0 dX0_spread_83 (by decide) ?_
      refine z_idiv C0 dX0_spread_85 (by decide) ?_
      obtain ⟨g36, h⟩ := zg_of h
      refine z_bald C0 (zs_0_5 hU25).2 g36 rfl dX0_spread_86 ?_
      obtain ⟨μ46, e_μ46, h⟩ := zbd_of h
      refine z_join μ46 117 [(0, .ref (zb g + a0)), (2, .int v2), (3, .int y14), (4, .int y26)] [] ?_ (fun k_J42 => ?_)
      · obtain ⟨x47, e_x47, h⟩ := zl_of h
        refine z_iinc (lo1 := [(4, .int x47), (0, .ref (zb g + a0)), (2, .int v2), (3, .int y14)]) C0 dX0_spread_117 3 rfl (by decide) e_x47.symm (by decide) rfl ?_
        refine z_goto C0 69 dX0_spread_120 (by decide) ?_
        refine z_sub (lo1 := [(0, .ref (zb g + a0)), (2, .int v2), (3, .int y14), (4, .int x47)]) [1, 2, 3, 0] rfl ?_
        exact ih _ _ _ h kx
      · have h := e_μ46
        obtain ⟨b41, e_b41, h⟩ := zbd_of h
        refine z_joinb b41 μ27 104 117 [(0, .ref (zb g + a0)), (2, .int v2), (3, .int y14), (4, .int y26)] [] (fun z56 => ?_) (fun z56 => ?_) (fun k54 k55 => ?_)
        · have h := zif_t z56 h
          refine z_aload_n C0 dX0_spread_104 rfl 0 rfl ?_
          refine z_getr C0 hU25 kf_0_31 zr_0_6 zx_0 (zs_0_6 hU25).1 dX0_spread_105 ?_
          refine z_aload_n C0 dX0_spread_108 rfl 0 rfl ?_
          refine z_getr C0 hU25 kf_0_18 zr_0_2 zx_0 (zs_0_2 hU25).1 dX0_spread_109 ?_
          refine z_iload C0 dX0_spread_112 3 rfl ?_
          obtain ⟨g43, h⟩ := zg_of h
          refine z_iald C0 (zs_0_2 hU25).2 g43 rfl dX0_spread_114 ?_
          refine z_iconst (v := (1 : Int32)) C0 dX0_spread_115 (by decide) ?_
          obtain ⟨g44, h⟩ := zg_of h
          obtain ⟨μ45, e_μ45, h⟩ := zl_of h
          refine z_bast C0 (zs_0_6 hU25).2 g44 rfl e_μ45 dX0_spread_116 ?_
          obtain rfl := (Option.some.inj h)
          exact k_J42
        · have h := zif_f (fun q => Bool.noConfusion (z56.symm.trans q)) h
          obtain rfl := (Option.some.inj h)
          exact k_J42
        · have h := e_b41
          refine z_if_eq C0 117 dX0_spread_87 (by decide) (fun c37 => ?_) (fun c37 => ?_)
          · have h := zif_t c37 h
            exact k55 (Option.some.inj h).symm
          · have h := zif_f c37 h
            refine z_aload_n C0 dX0_spread_90 rfl 0 rfl ?_
            refine z_getr C0 hU25 kf_0_15 zr_0_1 zx_0 (zs_0_1 hU25).1 dX0_spread_91 ?_
            refine z_iload C0 dX0_spread_94 3 rfl ?_
            refine z_bipush (v := (9 : Int32)) C0 dX0_spread_96 (by decide) ?_
            refine z_irem C0 dX0_spread_98 (by decide) ?_
            obtain ⟨g39, h⟩ := zg_of h
            refine z_iald C0 (zs_0_1 hU25).2 g39 rfl dX0_spread_99 ?_
            refine z_iconst (v := (-1 : Int32)) C0 dX0_spread_100 (by decide) ?_
            refine z_icmp_eq C0 117 dX0_spread_101 (by decide) (fun c40 => ?_) (fun c40 => ?_)
            · have h := zif_t c40 h
              exact k55 (Option.some.inj h).symm
            · have h := zif_f c40 h
              exact k54 (Option.some.inj h).symm
set_option maxHeartbeats 4000000 in
set_option maxRecDepth 100000 in
theorem r_X0_spread_L36 {l : Launch} {g : zL} {p : Program} {e : Env} {s : State} {m : MethodId} {args : Array Value} {below : List Frame} {meth : Method} {c : Code} {Q : State → Prop} (C0 : zC p s m args meth c g cX0_spread yX0_spread 5 none) (a0 : Nat) (v2 : Int32) (hU13 : zT zNN zσ1 a0 0) : ∀ (n : Nat) (y14 : Int32) (μ15 : zM) (μ53 : zM), f_X0_spread_L36 a0 v2 n y14 μ15 = some μ53 → Z p l e (zrm 2 0 0) s m args below meth c g Q 5 zNN 0 0 zσ1 μ53 145 [] [] → Z p l e (zrm 2 0 0) s m args below meth c g Q 5 zNN 0 0 zσ1 μ15 36 [(0, .ref (zb g + a0)), (2, .int v2), (3, .int y14)] [] := by
  intro n
  induction n with
  | zero =>
    intro y14 μ15 μ53 h kx
    rw [f_X0_spread_L36] at h
    cases h
  | succ n ih =>
    intro y14 μ15 μ53 h kx
    rw [f_X0_spread_L36] at h
    refine z_iload_n C0 dX0_spread_36 rfl 2 rfl ?_
    refine z_iload_n C0 dX0_spread_37 rfl 1 rfl ?_
    refine z_icmp_ge C0 145 dX0_spread_38 (by decide) (fun c16 => ?_) (fun c16 => ?_)
    · have h := zif_t c16 h
      refine z_sub (lo1 := []) [] rfl ?_
      obtain rfl := (Option.some.inj h)
      exact kx
    · have h := zif_f c16 h
      refine z_iconst (v := (0 : Int32)) C0 dX0_spread_41 (by decide) ?_
      refine z_istore (lo1 := [(4, .int (0 : Int32)), (0, .ref (zb g + a0)), (2, .int v2), (3, .int y14)]) C0 dX0_spread_42 (by decide) rfl ?_
      refine z_sub (lo1 := [(0, .ref (zb g + a0)), (2, .int v2), (3, .int y14), (4, .int (0 : Int32))]) [1, 2, 3, 0] rfl ?_
      obtain ⟨μ24, e_μ24, h⟩ := zbd_of h
      refine r_X0_spread_L44 C0 a0 v2 y14 hU13 zFU (0 : Int32) μ15 μ24 e_μ24 ?_
      refine z_iconst (v := (0 : Int32)) C0 dX0_spread_66 (by decide) ?_
      refine z_istore (lo1 := [(4, .int (0 : Int32)), (0, .ref (zb g + a0)), (2, .int v2), (3, .int y14)]) C0 dX0_spread_67 (by decide) rfl ?_
      refine z_sub (lo1 := [(0, .ref (zb g + a0)), (2, .int v2), (3, .int y14), (4, .int (0 : Int32))]) [1, 2, 3, 0] rfl ?_
      obtain ⟨μ48, e_μ48, h⟩ := zbd_of h
      refine r_X0_spread_L69 C0 a0 v2 y14 hU13 zFU (0 : Int32) μ24 μ48 e_μ48 ?_
      refine z_aload_n C0 dX0_spread_123 rfl 0 rfl ?_
      refine z_getr C0 hU13 kf_0_31 zr_0_6 zx_0 (zs_0_6 hU13).1 dX0_spread_124 ?_
      refine z_iconst (v := (0 : Int32)) C0 dX0_spread_127 (by decide) ?_
      refine z_aload_n C0 dX0_spread_128 rfl 0 rfl ?_
      refine z_getr C0 hU13 kf_0_27 zr_0_5 zx_0 (zs_0_5 hU13).1 dX0_spread_129 ?_
      refine z_iconst (v := (0 : Int32)) C0 dX0_spread_132 (by decide) ?_
      refine z_sipush (v := (144 : Int32)) C0 dX0_spread_133 (by decide) ?_
      obtain ⟨g49, h⟩ := zg_of h
      obtain ⟨g50, h⟩ := zg_of h
      obtain ⟨μ51, e_μ51, h⟩ := zl_of h
      refine z_copyb C0 rfl km_RX0_125 kA (zs_0_6 hU13).2 (zs_0_5 hU13).2 g49 g50 (Nat.le_of_ble_eq_true rfl) e_μ51 dX0_spread_136 ?_
      obtain ⟨x52, e_x52, h⟩ := zl_of h
      refine z_iinc (lo1 := [(3, .int x52), (0, .ref (zb g + a0)), (2, .int v2)]) C0 dX0_spread_139 2 rfl (by decide) e_x52.symm (by decide) rfl ?_
      refine z_goto C0 36 dX0_spread_142 (by decide) ?_
      refine z_sub (lo1 := [(0, .ref (zb g + a0)), (2, .int v2), (3, .int x52)]) [1, 2, 0] rfl ?_
      exact ih _ _ _ h kx
set_option maxHeartbeats 4000000 in
set_option maxRecDepth 100000 in
theorem r_X0_spread {l : Launch} {g : zL} (a0 : Nat) (a1 : Nat) (v2 : Int32) (μ : zM) (hT0 : zT zNN zσ1 a0 0) (hT1 : zT zNN zσ1 a1 1) {μr : zM} (h : f_X0_spread a0 a1 v2 μ = some μr) : zMet l g yX0_spread cX0_spread 5 none 2 0 0 zNN zNN zσ1 zσ1 [.ref (zb g + a0), .ref (zb g + a1), .int v2] μ none μr := by
  refine zMet.of (by decide +kernel) (Nat.le_of_ble_eq_true rfl) ?_
  intro p e s m args below meth c C0
  refine z_loc (lo1 := [(0, .ref (zb g + a0)), (1, .ref (zb g + a1)), (2, .int v2)]) rfl ?_
  unfold f_X0_spread at h
  refine z_iconst (v := (0 : Int32)) C0 dX0_spread_0 (by decide) ?_
  refine z_istore_n (lo1 := [(3, .int (0 : Int32)), (0, .ref (zb g + a0)), (1, .ref (zb g + a1)), (2, .int v2)]) C0 dX0_spread_1 rfl (by decide) rfl ?_
  refine z_sub (lo1 := [(0, .ref (zb g + a0)), (1, .ref (zb g + a1)), (2, .int v2), (3, .int (0 : Int32))]) [1, 2, 3, 0] rfl ?_
  obtain ⟨μ12, e_μ12, h⟩ := zbd_of h
  refine r_X0_spread_L2 C0 a0 a1 v2 hT0 hT1 zFU (0 : Int32) μ μ12 e_μ12 ?_
  refine z_iconst (v := (0 : Int32)) C0 dX0_spread_34 (by decide) ?_
  refine z_istore_n (lo1 := [(3, .int (0 : Int32)), (0, .ref (zb g + a0)), (2, .int v2)]) C0 dX0_spread_35 rfl (by decide) rfl ?_
  refine z_sub (lo1 := [(0, .ref (zb g + a0)), (2, .int v2), (3, .int (0 : Int32))]) [1, 2, 0] rfl ?_
  obtain ⟨μ53, e_μ53, h⟩ := zbd_of h
  refine r_X0_spread_L36 C0 a0 v2 hT0 zFU (0 : Int32) μ12 μ53 e_μ53 ?_
  have h := Option.some.inj h
  obtain rfl := h
  exact z_vret C0 rfl dX0_spread_145
def f_X0_weigh (a0 : Nat) (a1 : Nat) (μ : zM) : Option (zM) :=
  zbd (f_X0_findLeans a0 a1 (0 : Int32) μ) fun μ1 =>
  zbd (f_X0_findLeans a0 a1 (1 : Int32) μ1) fun μ2 =>
  zbd (f_X0_priceWithout a0 a1 (0 : Int32) μ2) fun μ3 =>
  some μ3
set_option maxHeartbeats 4000000 in
set_option maxRecDepth 100000 in
theorem r_X0_weigh {l : Launch} {g : zL} {κ : zK} (a0 : Nat) (a1 : Nat) (μ : zM) (hT0 : zT zNN zσ1 a0 0) (hT1 : zT zNN zσ1 a1 1) (hSp : zSK g κ) {μr : zM} (h : f_X0_weigh a0 a1 μ = some μr) : zMet l g yX0_weigh cX0_weigh 2 none 3 0 0 zNN zNN zσ1 zσ1 [.ref (zb g + a0), .ref (zb g + a1)] μ none μr := by
  refine zMet.of (by decide +kernel) (Nat.le_of_ble_eq_true rfl) ?_
  intro p e s m args below meth c C0
  have hF := hSp.at C0
  refine z_loc (lo1 := [(0, .ref (zb g + a0)), (1, .ref (zb g + a1))]) rfl ?_
  unfold f_X0_weigh at h
  refine z_aload_n C0 dX0_weigh_0 rfl 0 rfl ?_
  refine z_aload_n C0 dX0_weigh_1 rfl 1 rfl ?_
  refine z_iconst (v := (0 : Int32)) C0 dX0_weigh_2 (by decide) ?_
  obtain ⟨μ1, e_μ1, h⟩ := zbd_of h
  refine z_callV (As := [.ref (zb g + a1), .int (0 : Int32)]) (rest := []) C0 rfl kc_X0_findLeans km_RX0_43 (r_X0_findLeans (l := l) (g := g) a0 a1 (0 : Int32) μ hT0 hT1 e_μ1) hT0.1 hT0.2.2.1 rfl (by decide) rfl (Nat.le_of_ble_eq_true rfl) (Nat.le_of_ble_eq_true rfl) (Nat.le_of_ble_eq_true rfl) (Nat.le_of_ble_eq_true rfl) (Nat.le_refl _) rfl rfl dX0_weigh_3 ?_
  refine z_aload_n C0 dX0_weigh_6 rfl 0 rfl ?_
  refine z_aload_n C0 dX0_weigh_7 rfl 1 rfl ?_
  refine z_iconst (v := (1 : Int32)) C0 dX0_weigh_8 (by decide) ?_
  obtain ⟨μ2, e_μ2, h⟩ := zbd_of h
  refine z_callV (As := [.ref (zb g + a1), .int (1 : Int32)]) (rest := []) C0 rfl kc_X0_findLeans km_RX0_43 (r_X0_findLeans (l := l) (g := g) a0 a1 (1 : Int32) μ1 hT0 hT1 e_μ2) hT0.1 hT0.2.2.1 rfl (by decide) rfl (Nat.le_of_ble_eq_true rfl) (Nat.le_of_ble_eq_true rfl) (Nat.le_of_ble_eq_true rfl) (Nat.le_of_ble_eq_true rfl) (Nat.le_refl _) rfl rfl dX0_weigh_9 ?_
  refine z_aload_n C0 dX0_weigh_12 rfl 0 rfl ?_
  refine z_aload_n C0 dX0_weigh_13 rfl 1 rfl ?_
  refine z_iconst (v := (0 : Int32)) C0 dX0_weigh_14 (by decide) ?_
  obtain ⟨μ3, e_μ3, h⟩ := zbd_of h
  refine z_callV (As := [.ref (zb g + a1), .int (0 : Int32)]) (rest := []) C0 rfl kc_X0_priceWithout km_RX0_47 (r_X0_priceWithout (l := l) (g := g) a0 a1 (0 : Int32) μ2 hT0 hT1 hSp e_μ3) hT0.1 hT0.2.2.1 rfl (by decide) rfl (Nat.le_of_ble_eq_true rfl) (Nat.le_of_ble_eq_true rfl) (Nat.le_of_ble_eq_true rfl) (Nat.le_of_ble_eq_true rfl) (Nat.le_refl _) rfl rfl dX0_weigh_15 ?_
  have h := Option.some.inj h
  obtain rfl := h
  exact z_vret C0 rfl dX0_weigh_18
