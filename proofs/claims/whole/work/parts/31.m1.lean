def f_X12_below (a0 : Nat) (v1 : Int32) (μ : zM) : Option (Int32 × zM) :=
  zl (zup μ a0 37 (((μ a0 37) * (1103515245 : Int32)) + (12345 : Int32))) fun μ1 =>
  zg (znz v1) <|
  some (((zushr (μ1 a0 37) (16 : Int32)) % v1), μ1)
set_option maxHeartbeats 4000000 in
set_option maxRecDepth 100000 in
theorem r_X12_below {l : Launch} {g : zL} (a0 : Nat) (v1 : Int32) (μ : zM) (hT0 : zT zNN zσ1 a0 12) {rv : Int32} {μr : zM} (h : f_X12_below a0 v1 μ = some (rv, μr)) : zMet l g yX12_below cX12_below 2 (some (.int)) 0 0 0 zNN zNN zσ1 zσ1 [.ref (zb g + a0), .int v1] μ (some (.int rv)) μr := by
  refine zMet.of (by decide +kernel) (Nat.le_of_ble_eq_true rfl) ?_
  intro p e s m args below meth c C0
  refine z_loc (lo1 := [(0, .ref (zb g + a0)), (1, .int v1)]) rfl ?_
  unfold f_X12_below at h
  refine z_aload_n C0 dX12_below_0 rfl 0 rfl ?_
  refine z_aload_n C0 dX12_below_1 rfl 0 rfl ?_
  refine z_geti C0 hT0.1 hT0.2.2.1 kf_12_422 zr_12_37 dX12_below_2 ?_
  refine z_ldcw C0 dX12_below_5 kk_RX12_425 ?_
  refine z_imul C0 dX12_below_8 ?_
  refine z_sipush (v := (12345 : Int32)) C0 dX12_below_9 (by decide) ?_
  refine z_iadd C0 dX12_below_12 ?_
  obtain ⟨μ1, e_μ1, h⟩ := zl_of h
  refine z_puti C0 hT0.1 hT0.2.2.1 kf_12_422 zp_12_37 zr_12_37 e_μ1 dX12_below_13 ?_
  refine z_aload_n C0 dX12_below_16 rfl 0 rfl ?_
  refine z_geti C0 hT0.1 hT0.2.2.1 kf_12_422 zr_12_37 dX12_below_17 ?_
  refine z_bipush (v := (16 : Int32)) C0 dX12_below_20 (by decide) ?_
  refine z_iushr C0 dX12_below_22 ?_
  refine z_iload_n C0 dX12_below_23 rfl 1 rfl ?_
  obtain ⟨g2, h⟩ := zg_of h
  refine z_irem C0 dX12_below_24 g2 ?_
  have h := Option.some.inj h
  obtain ⟨rfl, rfl⟩ := Prod.mk.inj h
  exact z_iret C0 rfl dX12_below_25
def f_X12_bits_L4 (v0 : Int32) : Nat → Int32 → Int32 → Option (Int32)
  | 0, _, _ => none
  | n + 1, y1, y2 =>
    if (31 : Int32) ≤ y2 then
      some y1
    else
      zl (y1 + ((v0 >>> (y2 &&& 31)) &&& (1 : Int32))) fun x5 =>
      zl (y2 + (1 : Int32)) fun x6 =>
      f_X12_bits_L4 v0 n x5 x6
def f_X12_bits (v0 : Int32) : Option (Int32) :=
  zbd (f_X12_bits_L4 v0 zFU (0 : Int32) (0 : Int32)) fun x7 =>
  some x7
set_option maxHeartbeats 4000000 in
set_option maxRecDepth 100000 in
theorem r_X12_bits_L4 {l : Launch} {g : zL} {p : Program} {e : Env} {s : State} {m : MethodId} {args : Array Value} {below : List Frame} {meth : Method} {c : Code} {Q : State → Prop} (C0 : zC p s m args meth c g cX12_bits yX12_bits 3 (some (.int))) (v0 : Int32) (μ3 : zM)  : ∀ (n : Nat) (y1 : Int32) (y2 : Int32) (x7 : Int32), f_X12_bits_L4 v0 n y1 y2 = some x7 → Z p l e (zrm 0 0 0) s m args below meth c g Q 3 zNN 0 0 zσ1 μ3 24 [(1, .int x7)] [] → Z p l e (zrm 0 0 0) s m args below meth c g Q 3 zNN 0 0 zσ1 μ3 4 [(0, .int v0), (1, .int y1), (2, .int y2)] [] := by
  intro n
  induction n with
  | zero =>
    intro y1 y2 x7 h kx
    rw [f_X12_bits_L4] at h
    cases h
  | succ n ih =>
    intro y1 y2 x7 h kx
    rw [f_X12_bits_L4] at h
    refine z_iload_n C0 dX12_bits_4 rfl 2 rfl ?_
    refine z_bipush (v := (31 : Int32)) C0 dX12_bits_5 (by decide) ?_
    refine z_icmp_ge C0 24 dX12_bits_7 (by decide) (fun c4 => ?_) (fun c4 => ?_)
    · have h := zif_t c4 h
      refine z_sub (lo1 := [(1, .int y1)]) [1] rfl ?_
      obtain rfl := (Option.some.inj h)
      exact kx
    · have h := zif_f c4 h
      refine z_iload_n C0 dX12_bits_10 rfl 1 rfl ?_
      refine z_iload_n C0 dX12_bits_11 rfl 0 rfl ?_
      refine z_iload_n C0 dX12_bits_12 rfl 2 rfl ?_
      refine z_ishr C0 dX12_bits_13 ?_
      refine z_iconst (v := (1 : Int32)) C0 dX12_bits_14 (by decide) ?_
      refine z_iand C0 dX12_bits_15 ?_
      refine z_iadd C0 dX12_bits_16 ?_
      obtain ⟨x5, e_x5, h⟩ := zl_of h
      refine z_nm e_x5 ?_
      refine z_istore_n (lo1 := [(1, .int x5), (0, .int v0), (2, .int y2)]) C0 dX12_bits_17 rfl (by decide) rfl ?_
      obtain ⟨x6, e_x6, h⟩ := zl_of h
      refine z_iinc (lo1 := [(2, .int x6), (1, .int x5), (0, .int v0)]) C0 dX12_bits_18 2 rfl (by decide) e_x6.symm (by decide) rfl ?_
      refine z_goto C0 4 dX12_bits_21 (by decide) ?_
      refine z_sub (lo1 := [(0, .int v0), (1, .int x5), (2, .int x6)]) [2, 1, 0] rfl ?_
      exact ih _ _ _ h kx
set_option maxHeartbeats 4000000 in
set_option maxRecDepth 100000 in
theorem r_X12_bits {l : Launch} {g : zL} (v0 : Int32) {μ : zM}  {rv : Int32} (h : f_X12_bits v0 = some rv) : zMet l g yX12_bits cX12_bits 3 (some (.int)) 0 0 0 zNN zNN zσ1 zσ1 [.int v0] μ (some (.int rv)) μ := by
  refine zMet.of (by decide +kernel) (Nat.le_of_ble_eq_true rfl) ?_
  intro p e s m args below meth c C0
  refine z_loc (lo1 := [(0, .int v0)]) rfl ?_
  unfold f_X12_bits at h
  refine z_iconst (v := (0 : Int32)) C0 dX12_bits_0 (by decide) ?_
  refine z_istore_n (lo1 := [(1, .int (0 : Int32)), (0, .int v0)]) C0 dX12_bits_1 rfl (by decide) rfl ?_
  refine z_iconst (v := (0 : Int32)) C0 dX12_bits_2 (by decide) ?_
  refine z_istore_n (lo1 := [(2, .int (0 : Int32)), (1, .int (0 : Int32)), (0, .int v0)]) C0 dX12_bits_3 rfl (by decide) rfl ?_
  refine z_sub (lo1 := [(0, .int v0), (1, .int (0 : Int32)), (2, .int (0 : Int32))]) [2, 1, 0] rfl ?_
  obtain ⟨x7, e_x7, h⟩ := zbd_of h
  refine r_X12_bits_L4 C0 v0 μ zFU (0 : Int32) (0 : Int32) x7 e_x7 ?_
  refine z_iload_n C0 dX12_bits_24 rfl 0 rfl ?_
  have h := Option.some.inj h
  obtain rfl := h
  exact z_iret C0 rfl dX12_bits_25
def f_X12_sizes_L4 (a0 : Nat) (μ4 : zM) : Nat → Int32 → Int32 → Option (Int32)
  | 0, _, _ => none
  | n + 1, y2, y3 =>
    zbd (f_X12_of a0 (13 : Int32) μ4) fun r5 =>
    if r5 ≤ y3 then
      some y2
    else
      zbd (f_X12_of a0 ((80 : Int32) + y3) μ4) fun r7 =>
      zl (y2 + r7) fun x8 =>
      zl (y3 + (1 : Int32)) fun x9 =>
      f_X12_sizes_L4 a0 μ4 n x8 x9
def f_X12_sizes (a0 : Nat) (μ : zM) : Option (Int32) :=
  zbd (f_X12_sizes_L4 a0 μ zFU (0 : Int32) (0 : Int32)) fun x10 =>
  some x10
set_option maxHeartbeats 4000000 in
set_option maxRecDepth 100000 in
theorem r_X12_sizes_L4 {l : Launch} {g : zL} {p : Program} {e : Env} {s : State} {m : MethodId} {args : Array Value} {below : List Frame} {meth : Method} {c : Code} {Q : State → Prop} (C0 : zC p s m args meth c g cX12_sizes yX12_sizes 3 (some (.int))) (a0 : Nat) (μ4 : zM) (hU1 : zT zNN zσ1 a0 12) : ∀ (n : Nat) (y2 : Int32) (y3 : Int32) (x10 : Int32), f_X12_sizes_L4 a0 μ4 n y2 y3 = some x10 → Z p l e (zrm 1 0 0) s m args below meth c g Q 3 zNN 0 0 zσ1 μ4 31 [(1, .int x10)] [] → Z p l e (zrm 1 0 0) s m args below meth c g Q 3 zNN 0 0 zσ1 μ4 4 [(0, .ref (zb g + a0)), (1, .int y2), (2, .int y3)] [] := by
  intro n
  induction n with
  | zero =>
    intro y2 y3 x10 h kx
    rw [f_X12_sizes_L4] at h
    cases h
  | succ n ih =>
    intro y2 y3 x10 h kx
    rw [f_X12_sizes_L4] at h
    refine z_iload_n C0 dX12_sizes_4 rfl 2 rfl ?_
    refine z_aload_n C0 dX12_sizes_5 rfl 0 rfl ?_
    refine z_bipush (v := (13 : Int32)) C0 dX12_sizes_6 (by decide) ?_
    obtain ⟨r5, e_r5, h⟩ := zbd_of h
    refine z_callV (As := [.int (13 : Int32)]) (rest := [.int y3]) C0 rfl kc_X12_of km_RX12_180 (r_X12_of (l := l) (g := g) a0 (13 : Int32) μ4 hU1 e_r5) hU1.1 hU1.2.2.1 rfl (by decide) rfl (Nat.le_of_ble_eq_true rfl) (Nat.le_of_ble_eq_true rfl) (Nat.le_of_ble_eq_true rfl) (Nat.le_of_ble_eq_true rfl) (Nat.le_refl _) rfl rfl dX12_sizes_8 ?_
    refine z_icmp_ge C0 31 dX12_sizes_11 (by decide) (fun c6 => ?_) (fun c6 => ?_)
    · have h := zif_t c6 h
      refine z_sub (lo1 := [(1, .int y2)]) [1] rfl ?_
      obtain rfl := (Option.some.inj h)
      exact kx
    · have h := zif_f c6 h
      refine z_iload_n C0 dX12_sizes_14 rfl 1 rfl ?_
      refine z_aload_n C0 dX12_sizes_15 rfl 0 rfl ?_
      refine z_bipush (v := (80 : Int32)) C0 dX12_sizes_16 (by decide) ?_
      refine z_iload_n C0 dX12_sizes_18 rfl 2 rfl ?_
      refine z_iadd C0 dX12_sizes_19 ?_
      obtain ⟨r7, e_r7, h⟩ := zbd_of h
      refine z_callV (As := [.int ((80 : Int32) + y3)]) (rest := [.int y2]) C0 rfl kc_X12_of km_RX12_180 (r_X12_of (l := l) (g := g) a0 ((80 : Int32) + y3) μ4 hU1 e_r7) hU1.1 hU1.2.2.1 rfl (by decide) rfl (Nat.le_of_ble_eq_true rfl) (Nat.le_of_ble_eq_true rfl) (Nat.le_of_ble_eq_true rfl) (Nat.le_of_ble_eq_true rfl) (Nat.le_refl _) rfl rfl dX12_sizes_20 ?_
      refine z_iadd C0 dX12_sizes_23 ?_
      obtain ⟨x8, e_x8, h⟩ := zl_of h
      refine z_nm e_x8 ?_
      refine z_istore_n (lo1 := [(1, .int x8), (0, .ref (zb g + a0)), (2, .int y3)]) C0 dX12_sizes_24 rfl (by decide) rfl ?_
      obtain ⟨x9, e_x9, h⟩ := zl_of h
      refine z_iinc (lo1 := [(2, .int x9), (1, .int x8), (0, .ref (zb g + a0))]) C0 dX12_sizes_25 2 rfl (by decide) e_x9.symm (by decide) rfl ?_
      refine z_goto C0 4 dX12_sizes_28 (by decide) ?_
      refine z_sub (lo1 := [(0, .ref (zb g + a0)), (1, .int x8), (2, .int x9)]) [2, 1, 0] rfl ?_
      exact ih _ _ _ h kx
set_option maxHeartbeats 4000000 in
set_option maxRecDepth 100000 in
theorem r_X12_sizes {l : Launch} {g : zL} (a0 : Nat) (μ : zM) (hT0 : zT zNN zσ1 a0 12) {rv : Int32} (h : f_X12_sizes a0 μ = some rv) : zMet l g yX12_sizes cX12_sizes 3 (some (.int)) 1 0 0 zNN zNN zσ1 zσ1 [.ref (zb g + a0)] μ (some (.int rv)) μ := by
  refine zMet.of (by decide +kernel) (Nat.le_of_ble_eq_true rfl) ?_
  intro p e s m args below meth c C0
  refine z_loc (lo1 := [(0, .ref (zb g + a0))]) rfl ?_
  unfold f_X12_sizes at h
  refine z_iconst (v := (0 : Int32)) C0 dX12_sizes_0 (by decide) ?_
  refine z_istore_n (lo1 := [(1, .int (0 : Int32)), (0, .ref (zb g + a0))]) C0 dX12_sizes_1 rfl (by decide) rfl ?_
  refine z_iconst (v := (0 : Int32)) C0 dX12_sizes_2 (by decide) ?_
  refine z_istore_n (lo1 := [(2, .int (0 : Int32)), (1, .int (0 : Int32)), (0, .ref (zb g + a0))]) C0 dX12_sizes_3 rfl (by decide) rfl ?_
  refine z_sub (lo1 := [(0, .ref (zb g + a0)), (1, .int (0 : Int32)), (2, .int (0 : Int32))]) [2, 1, 0] rfl ?_
  obtain ⟨x10, e_x10, h⟩ := zbd_of h
  refine r_X12_sizes_L4 C0 a0 μ hT0 zFU (0 : Int32) (0 : Int32) x10 e_x10 ?_
  refine z_iload_n C0 dX12_sizes_31 rfl 0 rfl ?_
  have h := Option.some.inj h
  obtain rfl := h
  exact z_iret C0 rfl dX12_sizes_32
def f_X12_signOf (v0 : Int32) : Int32 :=
  zl (if (¬ (v0 = (1 : Int32))) ∧ (¬ v0 = (2 : Int32)) then
      (-1 : Int32)
    else
      (1 : Int32)) fun x4 =>
  x4
set_option maxHeartbeats 4000000 in
set_option maxRecDepth 100000 in
theorem r_X12_signOf {l : Launch} {g : zL} (v0 : Int32) {μ : zM}  {rv : Int32} (h : f_X12_signOf v0 = rv) : zMet l g yX12_signOf cX12_signOf 1 (some (.int)) 0 0 0 zNN zNN zσ1 zσ1 [.int v0] μ (some (.int rv)) μ := by
  refine zMet.of (by decide +kernel) (Nat.le_of_ble_eq_true rfl) ?_
  intro p e s m args below meth c C0
  refine z_loc (lo1 := [(0, .int v0)]) rfl ?_
  unfold f_X12_signOf at h
  refine z_iload_n C0 dX12_signOf_0 rfl 0 rfl ?_
  refine z_iconst (v := (1 : Int32)) C0 dX12_signOf_1 (by decide) ?_
  obtain ⟨x4, e_x4, h⟩ := zl_of h
  refine z_join μ 15 [] [.int x4] ?_ (fun k_J3 => ?_)
  · skip
    obtain rfl := h
    exact z_iret C0 rfl dX12_signOf_15
  · have h := e_x4.symm
    by_cases hc5 : (¬ (v0 = (1 : Int32))) ∧ (¬ v0 = (2 : Int32))
    · have h := zif_t hc5 h
      refine z_join μ 14 [(0, .int v0)] [] ?_ (fun k6 => ?_)
      · refine z_iconst (v := (-1 : Int32)) C0 dX12_signOf_14 (by decide) ?_
        refine z_sub (lo1 := []) [] rfl ?_
        obtain rfl := h
        exact k_J3
      · refine z_icmp_eq C0 10 dX12_signOf_2 (by decide) (fun c1 => ?_) (fun c1 => ?_)
        · exact absurd hc5 (fun q => q.1 c1)
        · refine z_iload_n C0 dX12_signOf_5 rfl 0 rfl ?_
          refine z_iconst (v := (2 : Int32)) C0 dX12_signOf_6 (by decide) ?_
          refine z_icmp_ne C0 14 dX12_signOf_7 (by decide) (fun c2 => ?_) (fun c2 => ?_)
          · exact k6
          · exact absurd hc5 (fun q => (fun q => q c2) q.2)
    · have h := zif_f hc5 h
      refine z_join μ 10 [(0, .int v0)] [] ?_ (fun k7 => ?_)
      · refine z_iconst (v := (1 : Int32)) C0 dX12_signOf_10 (by decide) ?_
        refine z_goto C0 15 dX12_signOf_11 (by decide) ?_
        refine z_sub (lo1 := []) [] rfl ?_
        obtain rfl := h
        exact k_J3
      · refine z_icmp_eq C0 10 dX12_signOf_2 (by decide) (fun c1 => ?_) (fun c1 => ?_)
        · exact k7
        · refine z_iload_n C0 dX12_signOf_5 rfl 0 rfl ?_
          refine z_iconst (v := (2 : Int32)) C0 dX12_signOf_6 (by decide) ?_
          refine z_icmp_ne C0 14 dX12_signOf_7 (by decide) (fun c2 => ?_) (fun c2 => ?_)
          · exact absurd ⟨c1, c2⟩ hc5
          · exact k7
def f_X12_blown (a0 : Nat) (v1 : Int32) (v2 : Int32) (v3 : Int32) (μ : zM) : Option (Int32) :=
  zbd (zbd (if v1 = (-1 : Int32) then
        some false
      else
        if ¬ (f_X12_axisOf v1) = v3 then
          some false
        else
          zbd (f_X12_sizes a0 μ) fun r5 =>
          zbd (f_X12_of a0 (7 : Int32) μ) fun r6 =>
          if (r5 * v2) < r6 then
            some false
          else
            some true) fun b8 =>
    if b8 = true then
      some (f_X12_signOf v1)
    else
      some (0 : Int32)) fun x10 =>
  some x10
set_option maxHeartbeats 4000000 in
set_option maxRecDepth 100000 in
theorem r_X12_blown {l : Launch} {g : zL} (a0 : Nat) (v1 : Int32) (v2 : Int32) (v3 : Int32) (μ : zM) (hT0 : zT zNN zσ1 a0 12) {rv : Int32} (h : f_X12_blown a0 v1 v2 v3 μ = some rv) : zMet l g yX12_blown cX12_blown 4 (some (.int)) 2 0 0 zNN zNN zσ1 zσ1 [.ref (zb g + a0), .int v1, .int v2, .int v3] μ (some (.int rv)) μ := by
  refine zMet.of (by decide +kernel) (Nat.le_of_ble_eq_true rfl) ?_
  intro p e s m args below meth c C0
  refine z_loc (lo1 := [(0, .ref (zb g + a0)), (1, .int v1), (2, .int v2), (3, .int v3)]) rfl ?_
  unfold f_X12_blown at h
  refine z_iload_n C0 dX12_blown_0 rfl 1 rfl ?_
  refine z_iconst (v := (-1 : Int32)) C0 dX12_blown_1 (by decide) ?_
  obtain ⟨x10, e_x10, h⟩ := zbd_of h
  refine z_join μ 36 [] [.int x10] ?_ (fun k_J9 => ?_)
  · have h := Option.some.inj h
    obtain rfl := h
    exact z_iret C0 rfl dX12_blown_36
  · have h := e_x10
    obtain ⟨b8, e_b8, h⟩ := zbd_of h
    refine z_joinb b8 μ 28 35 [(0, .ref (zb g + a0)), (1, .int v1), (2, .int v2), (3, .int v3)] [] (fun z13 => ?_) (fun z13 => ?_) (fun k11 k12 => ?_)
    · have h := zif_t z13 h
      refine z_iload_n C0 dX12_blown_28 rfl 1 rfl ?_
      refine z_callS (As := [.int v1]) (rest := []) C0 rfl kc_X12_signOf km_RX12_206 (r_X12_signOf (l := l) (g := g) (μ := μ) v1 rfl) rfl (Nat.le_of_ble_eq_true rfl) (Nat.le_of_ble_eq_true rfl) (Nat.le_of_ble_eq_true rfl) (Nat.le_of_ble_eq_true rfl) (Nat.le_refl _) rfl rfl dX12_blown_29 ?_
      refine z_goto C0 36 dX12_blown_32 (by decide) ?_
      refine z_sub (lo1 := []) [] rfl ?_
      obtain rfl := (Option.some.inj h)
      exact k_J9
    · have h := zif_f (fun q => Bool.noConfusion (z13.symm.trans q)) h
      refine z_iconst (v := (0 : Int32)) C0 dX12_blown_35 (by decide) ?_
      refine z_sub (lo1 := []) [] rfl ?_
      obtain rfl := (Option.some.inj h)
      exact k_J9
    · have h := e_b8
      refine z_icmp_eq C0 35 dX12_blown_2 (by decide) (fun c1 => ?_) (fun c1 => ?_)
      · have h := zif_t c1 h
        exact k12 (Option.some.inj h).symm
      · have h := zif_f c1 h
        refine z_iload_n C0 dX12_blown_5 rfl 1 rfl ?_
        refine z_callS (As := [.int v1]) (rest := []) C0 rfl kc_X12_axisOf km_RX12_200 (r_X12_axisOf (l := l) (g := g) (μ := μ) v1 rfl) rfl (Nat.le_of_ble_eq_true rfl) (Nat.le_of_ble_eq_true rfl) (Nat.le_of_ble_eq_true rfl) (Nat.le_of_ble_eq_true rfl) (Nat.le_refl _) rfl rfl dX12_blown_6 ?_
        refine z_iload_n C0 dX12_blown_9 rfl 3 rfl ?_
        refine z_icmp_ne C0 35 dX12_blown_10 (by decide) (fun c2 => ?_) (fun c2 => ?_)
        · have h := zif_t c2 h
          exact k12 (Option.some.inj h).symm
        · have h := zif_f (fun q => q c2) h
          refine z_aload_n C0 dX12_blown_13 rfl 0 rfl ?_
          obtain ⟨r5, e_r5, h⟩ := zbd_of h
          refine z_callV (As := []) (rest := []) C0 rfl kc_X12_sizes km_RX12_203 (r_X12_sizes (l := l) (g := g) a0 μ hT0 e_r5) hT0.1 hT0.2.2.1 rfl (by decide) rfl (Nat.le_of_ble_eq_true rfl) (Nat.le_of_ble_eq_true rfl) (Nat.le_of_ble_eq_true rfl) (Nat.le_of_ble_eq_true rfl) (Nat.le_refl _) rfl rfl dX12_blown_14 ?_
          refine z_iload_n C0 dX12_blown_17 rfl 2 rfl ?_
          refine z_imul C0 dX12_blown_18 ?_
          refine z_aload_n C0 dX12_blown_19 rfl 0 rfl ?_
          refine z_bipush (v := (7 : Int32)) C0 dX12_blown_20 (by decide) ?_
          obtain ⟨r6, e_r6, h⟩ := zbd_of h
          refine z_callV (As := [.int (7 : Int32)]) (rest := [.int (r5 * v2)]) C0 rfl kc_X12_of km_RX12_180 (r_X12_of (l := l) (g := g) a0 (7 : Int32) μ hT0 e_r6) hT0.1 hT0.2.2.1 rfl (by decide) rfl (Nat.le_of_ble_eq_true rfl) (Nat.le_of_ble_eq_true rfl) (Nat.le_of_ble_eq_true rfl) (Nat.le_of_ble_eq_true rfl) (Nat.le_refl _) rfl rfl dX12_blown_22 ?_
          refine z_icmp_lt C0 35 dX12_blown_25 (by decide) (fun c7 => ?_) (fun c7 => ?_)
          · have h := zif_t c7 h
            exact k12 (Option.some.inj h).symm
          · have h := zif_f c7 h
            exact k11 (Option.some.inj h).symm
def f_X12_ofMourner (a0 : Nat) (v1 : Int32) (v2 : Int32) (μ : zM) : Option (Int32) :=
  zbd (f_X12_of a0 (((86 : Int32) + ((3 : Int32) * v1)) + v2) μ) fun r1 =>
  some r1
set_option maxHeartbeats 4000000 in
set_option maxRecDepth 100000 in
theorem r_X12_ofMourner {l : Launch} {g : zL} (a0 : Nat) (v1 : Int32) (v2 : Int32) (μ : zM) (hT0 : zT zNN zσ1 a0 12) {rv : Int32} (h : f_X12_ofMourner a0 v1 v2 μ = some rv) : zMet l g yX12_ofMourner cX12_ofMourner 3 (some (.int)) 1 0 0 zNN zNN zσ1 zσ1 [.ref (zb g + a0), .int v1, .int v2] μ (some (.int rv)) μ := by
  refine zMet.of (by decide +kernel) (Nat.le_of_ble_eq_true rfl) ?_
  intro p e s m args below meth c C0
  refine z_loc (lo1 := [(0, .ref (zb g + a0)), (1, .int v1), (2, .int v2)]) rfl ?_
  unfold f_X12_ofMourner at h
  refine z_aload_n C0 dX12_ofMourner_0 rfl 0 rfl ?_
  refine z_bipush (v := (86 : Int32)) C0 dX12_ofMourner_1 (by decide) ?_
  refine z_iconst (v := (3 : Int32)) C0 dX12_ofMourner_3 (by decide) ?_
  refine z_iload_n C0 dX12_ofMourner_4 rfl 1 rfl ?_
  refine z_imul C0 dX12_ofMourner_5 ?_
  refine z_iadd C0 dX12_ofMourner_6 ?_
  refine z_iload_n C0 dX12_ofMourner_7 rfl 2 rfl ?_
  refine z_iadd C0 dX12_ofMourner_8 ?_
  obtain ⟨r1, e_r1, h⟩ := zbd_of h
  refine z_callV (As := [.int (((86 : Int32) + ((3 : Int32) * v1)) + v2)]) (rest := []) C0 rfl kc_X12_of km_RX12_180 (r_X12_of (l := l) (g := g) a0 (((86 : Int32) + ((3 : Int32) * v1)) + v2) μ hT0 e_r1) hT0.1 hT0.2.2.1 rfl (by decide) rfl (Nat.le_of_ble_eq_true rfl) (Nat.le_of_ble_eq_true rfl) (Nat.le_of_ble_eq_true rfl) (Nat.le_of_ble_eq_true rfl) (Nat.le_refl _) rfl rfl dX12_ofMourner_9 ?_
  have h := Option.some.inj h
  obtain rfl := h
  exact z_iret C0 rfl dX12_ofMourner_12
def f_X12_boards_L2 (a0 : Nat) (v1 : Int32) : Nat → Int32 → zM → Option (zM)
  | 0, _, _ => none
  | n + 1, y2, μ3 =>
    if (32761 : Int32) ≤ y2 then
      some μ3
    else
      zg (zin y2 32761) <|
      zl (zup μ3 (a0 + 7) (y2.toNatClampNeg) (μ3 (a0 + 6) (y2.toNatClampNeg))) fun μ6 =>
      zl (y2 + (1 : Int32)) fun x7 =>
      f_X12_boards_L2 a0 v1 n x7 μ6
def f_X12_boards_L53 (a0 : Nat) (v1 : Int32) (y10 : Int32) : Nat → Int32 → zM → Option (zM)
  | 0, _, _ => none
  | n + 1, y21, μ22 =>
    zbd (f_X12_places a0 μ22) fun r23 =>
    if r23 ≤ y21 then
      some μ22
    else
      zbd (f_X12_ofMourner a0 v1 (0 : Int32) μ22) fun r25 =>
      zbd (f_X12_arm a0 y21 (0 : Int32) μ22) fun r26 =>
      zbd (f_X12_ofMourner a0 v1 (0 : Int32) μ22) fun r27 =>
      zbd (f_X12_arm a0 y21 (1 : Int32) μ22) fun r28 =>
      zl ((y10 + (((181 : Int32) * r25) * r26)) + (r27 * r28)) fun x29 =>
      zg (zin y10 32761) <|
      zbd (f_X12_ofMourner a0 v1 (1 : Int32) μ22) fun r31 =>
      zl ((μ22 (a0 + 6) (y10.toNatClampNeg)) + r31) fun x32 =>
      zg (zin x29 32761) <|
      zl (if (μ22 (a0 + 7) (x29.toNatClampNeg)) ≤ x32 then
          (μ22 (a0 + 7) (x29.toNatClampNeg))
        else
          x32) fun x36 =>
      zl (zup μ22 (a0 + 7) (x29.toNatClampNeg) x36) fun μ37 =>
      zl (y21 + (1 : Int32)) fun x38 =>
      f_X12_boards_L53 a0 v1 y10 n x38 μ37
def f_X12_boards_L29 (a0 : Nat) (v1 : Int32) : Nat → Int32 → zM → Option (zM)
  | 0, _, _ => none
  | n + 1, y10, μ11 =>
    if (32761 : Int32) ≤ y10 then
      some μ11
    else
      zg (zin y10 32761) <|
      zbd (if (μ11 (a0 + 6) (y10.toNatClampNeg)) < (1000000 : Int32) then
          zbd (f_X12_boards_L53 a0 v1 y10 zFU (0 : Int32) μ11) fun μ39 =>
          some μ39
        else
          some μ11) fun μ40 =>
      zl (y10 + (1 : Int32)) fun x41 =>
      f_X12_boards_L29 a0 v1 n x41 μ40
def f_X12_boards_L156 (a0 : Nat) : Nat → Int32 → zM → Option (zM)
  | 0, _, _ => none
  | n + 1, y44, μ45 =>
    if (32761 : Int32) ≤ y44 then
      some μ45
    else
      zg (zin y44 32761) <|
      zl (zup μ45 (a0 + 6) (y44.toNatClampNeg) (μ45 (a0 + 7) (y44.toNatClampNeg))) fun μ48 =>
      zl (y44 + (1 : Int32)) fun x49 =>
      f_X12_boards_L156 a0 n x49 μ48
def f_X12_boards (a0 : Nat) (v1 : Int32) (μ : zM) : Option (zM) :=
  zbd (f_X12_boards_L2 a0 v1 zFU (0 : Int32) μ) fun μ8 =>
  zbd (f_X12_boards_L29 a0 v1 zFU (0 : Int32) μ8) fun μ42 =>
  zbd (f_X12_boards_L156 a0 zFU (0 : Int32) μ42) fun μ50 =>
  some μ50
set_option maxHeartbeats 4000000 in
set_option maxRecDepth 100000 in
theorem r_X12_boards_L2 {l : Launch} {g : zL} {p : Program} {e : Env} {s : State} {m : MethodId} {args : Array Value} {below : List Frame} {meth : Method} {c : Code} {Q : State → Prop} (C0 : zC p s m args meth c g cX12_boards yX12_boards 6 none) (a0 : Nat) (v1 : Int32) (hU1 : zT zNN zσ1 a0 12) : ∀ (n : Nat) (y2 : Int32) (μ3 : zM) (μ8 : zM), f_X12_boards_L2 a0 v1 n y2 μ3 = some μ8 → Z p l e (zrm 2 0 0) s m args below meth c g Q 6 zNN 0 0 zσ1 μ8 27 [(0, .ref (zb g + a0)), (1, .int v1)] [] → Z p l e (zrm 2 0 0) s m args below meth c g Q 6 zNN 0 0 zσ1 μ3 2 [(0, .ref (zb g + a0)), (1, .int v1), (2, .int y2)] [] := by
  intro n
  induction n with
  | zero =>
    intro y2 μ3 μ8 h kx
    rw [f_X12_boards_L2] at h
    cases h
  | succ n ih =>
    intro y2 μ3 μ8 h kx
    rw [f_X12_boards_L2] at h
    refine z_iload_n C0 dX12_boards_2 rfl 2 rfl ?_
    refine z_sipush (v := (32761 : Int32)) C0 dX12_boards_3 (by decide) ?_
    refine z_icmp_ge C0 27 dX12_boards_6 (by decide) (fun c4 => ?_) (fun c4 => ?_)
    · have h := zif_t c4 h
      refine z_sub (lo1 := [(0, .ref (zb g + a0)), (1, .int v1)]) [0, 1] rfl ?_
      obtain rfl := (Option.some.inj h)
      exact kx
    · have h := zif_f c4 h
      refine z_aload_n C0 dX12_boards_9 rfl 0 rfl ?_
      refine z_getr C0 hU1 kf_12_29 zr_12_27 zx_12 (zs_12_27 hU1).1 dX12_boards_10 ?_
      refine z_iload_n C0 dX12_boards_13 rfl 2 rfl ?_
      refine z_aload_n C0 dX12_boards_14 rfl 0 rfl ?_
      refine z_getr C0 hU1 kf_12_26 zr_12_26 zx_12 (zs_12_26 hU1).1 dX12_boards_15 ?_
      refine z_iload_n C0 dX12_boards_18 rfl 2 rfl ?_
      obtain ⟨g5, h⟩ := zg_of h
      refine z_iald C0 (zs_12_26 hU1).2 g5 rfl dX12_boards_19 ?_
      obtain ⟨μ6, e_μ6, h⟩ := zl_of h
      refine z_iast C0 (zs_12_27 hU1).2 g5 rfl e_μ6 dX12_boards_20 ?_
      obtain ⟨x7, e_x7, h⟩ := zl_of h
      refine z_iinc (lo1 := [(2, .int x7), (0, .ref (zb g + a0)), (1, .int v1)]) C0 dX12_boards_21 2 rfl (by decide) e_x7.symm (by decide) rfl ?_
      refine z_goto C0 2 dX12_boards_24 (by decide) ?_
      refine z_sub (lo1 := [(0, .ref (zb g + a0)), (1, .int v1), (2, .int x7)]) [1, 2, 0] rfl ?_
      exact ih _ _ _ h kx
set_option maxHeartbeats 4000000 in
set_option maxRecDepth 100000 in
theorem r_X12_boards_L53 {l : Launch} {g : zL} {p : Program} {e : Env} {s : State} {m : MethodId} {args : Array Value} {below : List Frame} {meth : Method} {c : Code} {Q : State → Prop} (C0 : zC p s m args meth c g cX12_boards yX12_boards 6 none) (a0 : Nat) (v1 : Int32) (y10 : Int32) (hU20 : zT zNN zσ1 a0 12) : ∀ (n : Nat) (y21 : Int32) (μ22 : zM) (μ39 : zM), f_X12_boards_L53 a0 v1 y10 n y21 μ22 = some μ39 → Z p l e (zrm 2 0 0) s m args below meth c g Q 6 zNN 0 0 zσ1 μ39 148 [(0, .ref (zb g + a0)), (1, .int v1), (2, .int y10)] [] → Z p l e (zrm 2 0 0) s m args below meth c g Q 6 zNN 0 0 zσ1 μ22 53 [(0, .ref (zb g + a0)), (1, .int v1), (2, .int y10), (3, .int y21)] [] := by
  intro n
  induction n with
  | zero =>
    intro y21 μ22 μ39 h kx
    rw [f_X12_boards_L53] at h
    cases h
  | succ n ih =>
    intro y21 μ22 μ39 h kx
    rw [f_X12_boards_L53] at h
    refine z_iload_n C0 dX12_boards_53 rfl 3 rfl ?_
    refine z_aload_n C0 dX12_boards_54 rfl 0 rfl ?_
    obtain ⟨r23, e_r23, h⟩ := zbd_of h
    refine z_callV (As := []) (rest := [.int y21]) C0 rfl kc_X12_places km_RX12_257 (r_X12_places (l := l) (g := g) a0 μ22 hU20 e_r23) hU20.1 hU20.2.2.1 rfl (by decide) rfl (Nat.le_of_ble_eq_true rfl) (Nat.le_of_ble_eq_true rfl) (Nat.le_of_ble_eq_true rfl) (Nat.le_of_ble_eq_true rfl) (Nat.le_refl _) rfl rfl dX12_boards_55 ?_
    refine z_icmp_ge C0 148 dX12_boards_58 (by decide) (fun c24 => ?_) (fun c24 => ?_)
    · have h := zif_t c24 h
      refine z_sub (lo1 := [(0, .ref (zb g + a0)), (1, .int v1), (2, .int y10)]) [0, 1, 2] rfl ?_
      obtain rfl := (Option.some.inj h)
      exact kx
    · have h := zif_f c24 h
      refine z_iload_n C0 dX12_boards_61 rfl 2 rfl ?_
      refine z_sipush (v := (181 : Int32)) C0 dX12_boards_62 (by decide) ?_
      refine z_aload_n C0 dX12_boards_65 rfl 0 rfl ?_
      refine z_iload_n C0 dX12_boards_66 rfl 1 rfl ?_
      refine z_iconst (v := (0 : Int32)) C0 dX12_boards_67 (by decide) ?_
      obtain ⟨r25, e_r25, h⟩ := zbd_of h
      refine z_callV (As := [.int v1, .int (0 : Int32)]) (rest := [.int (181 : Int32), .int y10]) C0 rfl kc_X12_ofMourner km_RX12_189 (r_X12_ofMourner (l := l) (g := g) a0 v1 (0 : Int32) μ22 hU20 e_r25) hU20.1 hU20.2.2.1 rfl (by decide) rfl (Nat.le_of_ble_eq_true rfl) (Nat.le_of_ble_eq_true rfl) (Nat.le_of_ble_eq_true rfl) (Nat.le_of_ble_eq_true rfl) (Nat.le_refl _) rfl rfl dX12_boards_68 ?_
      refine z_imul C0 dX12_boards_71 ?_
      refine z_aload_n C0 dX12_boards_72 rfl 0 rfl ?_
      refine z_iload_n C0 dX12_boards_73 rfl 3 rfl ?_
      refine z_iconst (v := (0 : Int32)) C0 dX12_boards_74 (by decide) ?_
      obtain ⟨r26, e_r26, h⟩ := zbd_of h
      refine z_callV (As := [.int y21, .int (0 : Int32)]) (rest := [.int ((181 : Int32) * r25), .int y10]) C0 rfl kc_X12_arm km_RX12_192 (r_X12_arm (l := l) (g := g) a0 y21 (0 : Int32) μ22 hU20 e_r26) hU20.1 hU20.2.2.1 rfl (by decide) rfl (Nat.le_of_ble_eq_true rfl) (Nat.le_of_ble_eq_true rfl) (Nat.le_of_ble_eq_true rfl) (Nat.le_of_ble_eq_true rfl) (Nat.le_refl _) rfl rfl dX12_boards_75 ?_
      refine z_imul C0 dX12_boards_78 ?_
      refine z_iadd C0 dX12_boards_79 ?_
      refine z_aload_n C0 dX12_boards_80 rfl 0 rfl ?_
      refine z_iload_n C0 dX12_boards_81 rfl 1 rfl ?_
      refine z_iconst (v := (0 : Int32)) C0 dX12_boards_82 (by decide) ?_
      obtain ⟨r27, e_r27, h⟩ := zbd_of h
      refine z_callV (As := [.int v1, .int (0 : Int32)]) (rest := [.int (y10 + (((181 : Int32) * r25) * r26))]) C0 rfl kc_X12_ofMourner km_RX12_189 (r_X12_ofMourner (l := l) (g := g) a0 v1 (0 : Int32) μ22 hU20 e_r27) hU20.1 hU20.2.2.1 rfl (by decide) rfl (Nat.le_of_ble_eq_true rfl) (Nat.le_of_ble_eq_true rfl) (Nat.le_of_ble_eq_true rfl) (Nat.le_of_ble_eq_true rfl) (Nat.le_refl _) rfl rfl dX12_boards_83 ?_
      refine z_aload_n C0 dX12_boards_86 rfl 0 rfl ?_
      refine z_iload_n C0 dX12_boards_87 rfl 3 rfl ?_
      refine z_iconst (v := (1 : Int32)) C0 dX12_boards_88 (by decide) ?_
      obtain ⟨r28, e_r28, h⟩ := zbd_of h
      refine z_callV (As := [.int y21, .int (1 : Int32)]) (rest := [.int r27, .int (y10 + (((181 : Int32) * r25) * r26))]) C0 rfl kc_X12_arm km_RX12_192 (r_X12_arm (l := l) (g := g) a0 y21 (1 : Int32) μ22 hU20 e_r28) hU20.1 hU20.2.2.1 rfl (by decide) rfl (Nat.le_of_ble_eq_true rfl) (Nat.le_of_ble_eq_true rfl) (Nat.le_of_ble_eq_true rfl) (Nat.le_of_ble_eq_true rfl) (Nat.le_refl _) rfl rfl dX12_boards_89 ?_
      refine z_imul C0 dX12_boards_92 ?_
      refine z_iadd C0 dX12_boards_93 ?_
      obtain ⟨x29, e_x29, h⟩ := zl_of h
      refine z_nm e_x29 ?_
      refine z_istore (lo1 := [(4, .int x29), (0, .ref (zb g + a0)), (1, .int v1), (2, .int y10), (3, .int y21)]) C0 dX12_boards_94 (by decide) rfl ?_
      refine z_aload_n C0 dX12_boards_96 rfl 1 rfl ?_
      refine z_getr C0 hU20 kf_12_26 zr_12_26 zx_12 (zs_12_26 hU20).1 dX12_boards_97 ?_
      refine z_iload_n C0 dX12_boards_100 rfl 3 rfl ?_
      obtain ⟨g30, h⟩ := zg_of h
      refine z_iald C0 (zs_12_26 hU20).2 g30 rfl dX12_boards_101 ?_
      refine z_aload_n C0 dX12_boards_102 rfl 1 rfl ?_
      refine z_iload_n C0 dX12_boards_103 rfl 2 rfl ?_
      refine z_iconst (v := (1 : Int32)) C0 dX12_boards_104 (by decide) ?_
      obtain ⟨r31, e_r31, h⟩ := zbd_of h
      refine z_callV (As := [.int v1, .int (1 : Int32)]) (rest := [.int (μ22 (a0 + 6) (y10.toNatClampNeg))]) C0 rfl kc_X12_ofMourner km_RX12_189 (r_X12_ofMourner (l := l) (g := g) a0 v1 (1 : Int32) μ22 hU20 e_r31) hU20.1 hU20.2.2.1 rfl (by decide) rfl (Nat.le_of_ble_eq_true rfl) (Nat.le_of_ble_eq_true rfl) (Nat.le_of_ble_eq_true rfl) (Nat.le_of_ble_eq_true rfl) (Nat.le_refl _) rfl rfl dX12_boards_105 ?_
      refine z_iadd C0 dX12_boards_108 ?_
      obtain ⟨x32, e_x32, h⟩ := zl_of h
      refine z_nm e_x32 ?_
      refine z_istore (lo1 := [(5, .int x32), (4, .int x29), (0, .ref (zb g + a0)), (1, .int v1), (2, .int y10), (3, .int y21)]) C0 dX12_boards_109 (by decide) rfl ?_
      refine z_aload_n C0 dX12_boards_111 rfl 2 rfl ?_
      refine z_getr C0 hU20 kf_12_29 zr_12_27 zx_12 (zs_12_27 hU20).1 dX12_boards_112 ?_
      refine z_iload C0 dX12_boards_115 1 rfl ?_
      refine z_iload C0 dX12_boards_117 0 rfl ?_
      refine z_aload_n C0 dX12_boards_119 rfl 2 rfl ?_
      refine z_getr C0 hU20 kf_12_29 zr_12_27 zx_12 (zs_12_27 hU20).1 dX12_boards_120 ?_
      refine z_iload C0 dX12_boards_123 1 rfl ?_
      obtain ⟨g33, h⟩ := zg_of h
      refine z_iald C0 (zs_12_27 hU20).2 g33 rfl dX12_boards_125 ?_
      obtain ⟨x36, e_x36, h⟩ := zl_of h
      refine z_join μ22 141 [(0, .ref (zb g + a0)), (1, .int v1), (2, .int y10), (3, .int y21)] [.int x36, .int x29, .ref (zb g + (a0 + 7))] ?_ (fun k_J35 => ?_)
      · obtain ⟨μ37, e_μ37, h⟩ := zl_of h
        refine z_iast C0 (zs_12_27 hU20).2 g33 rfl e_μ37 dX12_boards_141 ?_
        obtain ⟨x38, e_x38, h⟩ := zl_of h
        refine z_iinc (lo1 := [(3, .int x38), (0, .ref (zb g + a0)), (1, .int v1), (2, .int y10)]) C0 dX12_boards_142 3 rfl (by decide) e_x38.symm (by decide) rfl ?_
        refine z_goto C0 53 dX12_boards_145 (by decide) ?_
        refine z_sub (lo1 := [(0, .ref (zb g + a0)), (1, .int v1), (2, .int y10), (3, .int x38)]) [1, 2, 3, 0] rfl ?_
        exact ih _ _ _ h kx
      · have h := e_x36.symm
        refine z_icmp_ge C0 134 dX12_boards_126 (by decide) (fun c34 => ?_) (fun c34 => ?_)
        · have h := zif_t c34 h
          refine z_aload_n C0 dX12_boards_134 rfl 2 rfl ?_
          refine z_getr C0 hU20 kf_12_29 zr_12_27 zx_12 (zs_12_27 hU20).1 dX12_boards_135 ?_
          refine z_iload C0 dX12_boards_138 1 rfl ?_
          refine z_iald C0 (zs_12_27 hU20).2 g33 rfl dX12_boards_140 ?_
          refine z_sub (lo1 := [(0, .ref (zb g + a0)), (1, .int v1), (2, .int y10), (3, .int y21)]) [2, 3, 4, 5] rfl ?_
          obtain rfl := h
          exact k_J35
        · have h := zif_f c34 h
          refine z_iload C0 dX12_boards_129 0 rfl ?_
          refine z_goto C0 141 dX12_boards_131 (by decide) ?_
          refine z_sub (lo1 := [(0, .ref (zb g + a0)), (1, .int v1), (2, .int y10), (3, .int y21)]) [2, 3, 4, 5] rfl ?_
          obtain rfl := h
          exact k_J35
set_option maxHeartbeats 4000000 in
set_option maxRecDepth 100000 in
theorem r_X12_boards_L29 {l : Launch} {g : zL} {p : Program} {e : Env} {s : State} {m : MethodId} {args : Array Value} {below : List Frame} {meth : Method} {c : Code} {Q : State → Prop} (C0 : zC p s m args meth c g cX12_boards yX12_boards 6 none) (a0 : Nat) (v1 : Int32) (hU9 : zT zNN zσ1 a0 12) : ∀ (n : Nat) (y10 : Int32) (μ11 : zM) (μ42 : zM), f_X12_boards_L29 a0 v1 n y10 μ11 = some μ42 → Z p l e (zrm 2 0 0) s m args below meth c g Q 6 zNN 0 0 zσ1 μ42 154 [(0, .ref (zb g + a0))] [] → Z p l e (zrm 2 0 0) s m args below meth c g Q 6 zNN 0 0 zσ1 μ11 29 [(0, .ref (zb g + a0)), (1, .int v1), (2, .int y10)] [] := by
  intro n
  induction n with
  | zero =>
    intro y10 μ11 μ42 h kx
    rw [f_X12_boards_L29] at h
    cases h
  | succ n ih =>
    intro y10 μ11 μ42 h kx
    rw [f_X12_boards_L29] at h
    refine z_iload_n C0 dX12_boards_29 rfl 2 rfl ?_
    refine z_sipush (v := (32761 : Int32)) C0 dX12_boards_30 (by decide) ?_
    refine z_icmp_ge C0 154 dX12_boards_33 (by decide) (fun c12 => ?_) (fun c12 => ?_)
    · have h := zif_t c12 h
      refine z_sub (lo1 := [(0, .ref (zb g + a0))]) [0] rfl ?_
      obtain rfl := (Option.some.inj h)
      exact kx
    · have h := zif_f c12 h
      refine z_aload_n C0 dX12_boards_36 rfl 0 rfl ?_
      refine z_getr C0 hU9 kf_12_26 zr_12_26 zx_12 (zs_12_26 hU9).1 dX12_boards_37 ?_
      refine z_iload_n C0 dX12_boards_40 rfl 2 rfl ?_
      obtain ⟨g17, h⟩ := zg_of h
      refine z_iald C0 (zs_12_26 hU9).2 g17 rfl dX12_boards_41 ?_
      refine z_ldcw C0 dX12_boards_42 kk_RX12_335 ?_
      obtain ⟨μ40, e_μ40, h⟩ := zbd_of h
      refine z_join μ40 148 [(0, .ref (zb g + a0)), (1, .int v1), (2, .int y10)] [] ?_ (fun k_J19 => ?_)
      · obtain ⟨x41, e_x41, h⟩ := zl_of h
        refine z_iinc (lo1 := [(2, .int x41), (0, .ref (zb g + a0)), (1, .int v1)]) C0 dX12_boards_148 2 rfl (by decide) e_x41.symm (by decide) rfl ?_
        refine z_goto C0 29 dX12_boards_151 (by decide) ?_
        refine z_sub (lo1 := [(0, .ref (zb g + a0)), (1, .int v1), (2, .int x41)]) [1, 2, 0] rfl ?_
        exact ih _ _ _ h kx
      · have h := e_μ40
        refine z_icmp_lt C0 51 dX12_boards_45 (by decide) (fun c18 => ?_) (fun c18 => ?_)
        · have h := zif_t c18 h
          refine z_iconst (v := (0 : Int32)) C0 dX12_boards_51 (by decide) ?_
          refine z_istore_n (lo1 := [(3, .int (0 : Int32)), (0, .ref (zb g + a0)), (1, .int v1), (2, .int y10)]) C0 dX12_boards_52 rfl (by decide) rfl ?_
          refine z_sub (lo1 := [(0, .ref (zb g + a0)), (1, .int v1), (2, .int y10), (3, .int (0 : Int32))]) [1, 2, 3, 0] rfl ?_
          obtain ⟨μ39, e_μ39, h⟩ := zbd_of h
          refine r_X12_boards_L53 C0 a0 v1 y10 hU9 zFU (0 : Int32) μ11 μ39 e_μ39 ?_
          obtain rfl := (Option.some.inj h)
          exact k_J19
        · have h := zif_f c18 h
          refine z_goto C0 148 dX12_boards_48 (by decide) ?_
          obtain rfl := (Option.some.inj h)
          exact k_J19
set_option maxHeartbeats 4000000 in
set_option maxRecDepth 100000 in
theorem r_X12_boards_L156 {l : Launch} {g : zL} {p : Program} {e : Env} {s : State} {m : MethodId} {args : Array Value} {below : List Frame} {meth : Method} {c : Code} {Q : State → Prop} (C0 : zC p s m args meth c g cX12_boards yX12_boards 6 none) (a0 : Nat) (hU43 : zT zNN zσ1 a0 12) : ∀ (n : Nat) (y44 : Int32) (μ45 : zM) (μ50 : zM), f_X12_boards_L156 a0 n y44 μ45 = some μ50 → Z p l e (zrm 2 0 0) s m args below meth c g Q 6 zNN 0 0 zσ1 μ50 181 [] [] → Z p l e (zrm 2 0 0) s m args below meth c g Q 6 zNN 0 0 zσ1 μ45 156 [(0, .ref (zb g + a0)), (2, .int y44)] [] := by
  intro n
  induction n with
  | zero =>
    intro y44 μ45 μ50 h kx
    rw [f_X12_boards_L156] at h
    cases h
  | succ n ih =>
    intro y44 μ45 μ50 h kx
    rw [f_X12_boards_L156] at h
    refine z_iload_n C0 dX12_boards_156 rfl 1 rfl ?_
    refine z_sipush (v := (32761 : Int32)) C0 dX12_boards_157 (by decide) ?_
    refine z_icmp_ge C0 181 dX12_boards_160 (by decide) (fun c46 => ?_) (fun c46 => ?_)
    · have h := zif_t c46 h
      refine z_sub (lo1 := []) [] rfl ?_
      obtain rfl := (Option.some.inj h)
      exact kx
    · have h := zif_f c46 h
      refine z_aload_n C0 dX12_boards_163 rfl 0 rfl ?_
      refine z_getr C0 hU43 kf_12_26 zr_12_26 zx_12 (zs_12_26 hU43).1 dX12_boards_164 ?_
      refine z_iload_n C0 dX12_boards_167 rfl 1 rfl ?_
      refine z_aload_n C0 dX12_boards_168 rfl 0 rfl ?_
      refine z_getr C0 hU43 kf_12_29 zr_12_27 zx_12 (zs_12_27 hU43).1 dX12_boards_169 ?_
      refine z_iload_n C0 dX12_boards_172 rfl 1 rfl ?_
      obtain ⟨g47, h⟩ := zg_of h
      refine z_iald C0 (zs_12_27 hU43).2 g47 rfl dX12_boards_173 ?_
      obtain ⟨μ48, e_μ48, h⟩ := zl_of h
      refine z_iast C0 (zs_12_26 hU43).2 g47 rfl e_μ48 dX12_boards_174 ?_
      obtain ⟨x49, e_x49, h⟩ := zl_of h
      refine z_iinc (lo1 := [(2, .int x49), (0, .ref (zb g + a0))]) C0 dX12_boards_175 1 rfl (by decide) e_x49.symm (by decide) rfl ?_
      refine z_goto C0 156 dX12_boards_178 (by decide) ?_
      refine z_sub (lo1 := [(0, .ref (zb g + a0)), (2, .int x49)]) [1, 0] rfl ?_
      exact ih _ _ _ h kx
set_option maxHeartbeats 4000000 in
set_option maxRecDepth 100000 in
theorem r_X12_boards {l : Launch} {g : zL} (a0 : Nat) (v1 : Int32) (μ : zM) (hT0 : zT zNN zσ1 a0 12) {μr : zM} (h : f_X12_boards a0 v1 μ = some μr) : zMet l g yX12_boards cX12_boards 6 none 2 0 0 zNN zNN zσ1 zσ1 [.ref (zb g + a0), .int v1] μ none μr := by
  refine zMet.of (by decide +kernel) (Nat.le_of_ble_eq_true rfl) ?_
  intro p e s m args below meth c C0
  refine z_loc (lo1 := [(0, .ref (zb g + a0)), (1, .int v1)]) rfl ?_
  unfold f_X12_boards at h
  refine z_iconst (v := (0 : Int32)) C0 dX12_boards_0 (by decide) ?_
  refine z_istore_n (lo1 := [(2, .int (0 : Int32)), (0, .ref (zb g + a0)), (1, .int v1)]) C0 dX12_boards_1 rfl (by decide) rfl ?_
  refine z_sub (lo1 := [(0, .ref (zb g + a0)), (1, .int v1), (2, .int (0 : Int32))]) [1, 2, 0] rfl ?_
  obtain ⟨μ8, e_μ8, h⟩ := zbd_of h
  refine r_X12_boards_L2 C0 a0 v1 hT0 zFU (0 : Int32) μ μ8 e_μ8 ?_
  refine z_iconst (v := (0 : Int32)) C0 dX12_boards_27 (by decide) ?_
  refine z_istore_n (lo1 := [(2, .int (0 : Int32)), (0, .ref (zb g + a0)), (1, .int v1)]) C0 dX12_boards_28 rfl (by decide) rfl ?_
  refine z_sub (lo1 := [(0, .ref (zb g + a0)), (1, .int v1), (2, .int (0 : Int32))]) [1, 2, 0] rfl ?_
  obtain ⟨μ42, e_μ42, h⟩ := zbd_of h
  refine r_X12_boards_L29 C0 a0 v1 hT0 zFU (0 : Int32) μ8 μ42 e_μ42 ?_
  refine z_iconst (v := (0 : Int32)) C0 dX12_boards_154 (by decide) ?_
  refine z_istore_n (lo1 := [(2, .int (0 : Int32)), (0, .ref (zb g + a0))]) C0 dX12_boards_155 rfl (by decide) rfl ?_
  refine z_sub (lo1 := [(0, .ref (zb g + a0)), (2, .int (0 : Int32))]) [1, 0] rfl ?_
  obtain ⟨μ50, e_μ50, h⟩ := zbd_of h
  refine r_X12_boards_L156 C0 a0 hT0 zFU (0 : Int32) μ42 μ50 e_μ50 ?_
  have h := Option.some.inj h
  obtain rfl := h
  exact z_vret C0 rfl dX12_boards_181
def f_X12_both_L6 (a0 : Nat) (μ4 : zM) : Nat → Int32 → Int32 → Option (Int32)
  | 0, _, _ => none
  | n + 1, y2, y3 =>
    if (144 : Int32) ≤ y3 then
      some y2
    else
      zg (zin (((4 : Int32) * y3) + (3 : Int32)) 576) <|
      zl (if y2 ≤ (μ4 (a0 + 11) ((((4 : Int32) * y3) + (3 : Int32)).toNatClampNeg)) then
          y2
        else
          (μ4 (a0 + 11) ((((4 : Int32) * y3) + (3 : Int32)).toNatClampNeg))) fun x13 =>
      zl (y3 + (1 : Int32)) fun x14 =>
      f_X12_both_L6 a0 μ4 n x13 x14
def f_X12_both (a0 : Nat) (μ : zM) : Option (Int32) :=
  zbd (f_X12_both_L6 a0 μ zFU (1000000 : Int32) (0 : Int32)) fun x15 =>
  zl (if (1000000 : Int32) ≤ x15 then
      (-1 : Int32)
    else
      x15) fun x18 =>
  some x18
set_option maxHeartbeats 4000000 in
set_option maxRecDepth 100000 in
theorem r_X12_both_L6 {l : Launch} {g : zL} {p : Program} {e : Env} {s : State} {m : MethodId} {args : Array Value} {below : List Frame} {meth : Method} {c : Code} {Q : State → Prop} (C0 : zC p s m args meth c g cX12_both yX12_both 3 (some (.int))) (a0 : Nat) (μ4 : zM) (hU1 : zT zNN zσ1 a0 12) : ∀ (n : Nat) (y2 : Int32) (y3 : Int32) (x15 : Int32), f_X12_both_L6 a0 μ4 n y2 y3 = some x15 → Z p l e (zrm 0 0 0) s m args below meth c g Q 3 zNN 0 0 zσ1 μ4 48 [(1, .int x15)] [] → Z p l e (zrm 0 0 0) s m args below meth c g Q 3 zNN 0 0 zσ1 μ4 6 [(0, .ref (zb g + a0)), (1, .int y2), (2, .int y3)] [] := by
  intro n
  induction n with
  | zero =>
    intro y2 y3 x15 h kx
    rw [f_X12_both_L6] at h
    cases h
  | succ n ih =>
    intro y2 y3 x15 h kx
    rw [f_X12_both_L6] at h
    refine z_iload_n C0 dX12_both_6 rfl 2 rfl ?_
    refine z_sipush (v := (144 : Int32)) C0 dX12_both_7 (by decide) ?_
    refine z_icmp_ge C0 48 dX12_both_10 (by decide) (fun c5 => ?_) (fun c5 => ?_)
    · have h := zif_t c5 h
      refine z_sub (lo1 := [(1, .int y2)]) [1] rfl ?_
      obtain rfl := (Option.some.inj h)
      exact kx
    · have h := zif_f c5 h
      refine z_aload_n C0 dX12_both_13 rfl 0 rfl ?_
      refine z_getr C0 hU1 kf_12_41 zr_12_31 zx_12 (zs_12_31 hU1).1 dX12_both_14 ?_
      refine z_iconst (v := (4 : Int32)) C0 dX12_both_17 (by decide) ?_
      refine z_iload_n C0 dX12_both_18 rfl 2 rfl ?_
      refine z_imul C0 dX12_both_19 ?_
      refine z_iconst (v := (3 : Int32)) C0 dX12_both_20 (by decide) ?_
      refine z_iadd C0 dX12_both_21 ?_
      obtain ⟨g10, h⟩ := zg_of h
      refine z_iald C0 (zs_12_31 hU1).2 g10 rfl dX12_both_22 ?_
      refine z_iload_n C0 dX12_both_23 rfl 1 rfl ?_
      obtain ⟨x13, e_x13, h⟩ := zl_of h
      refine z_join μ4 41 [(0, .ref (zb g + a0)), (2, .int y3)] [.int x13] ?_ (fun k_J12 => ?_)
      · refine z_istore_n (lo1 := [(1, .int x13), (0, .ref (zb g + a0)), (2, .int y3)]) C0 dX12_both_41 rfl (by decide) rfl ?_
        obtain ⟨x14, e_x14, h⟩ := zl_of h
        refine z_iinc (lo1 := [(2, .int x14), (1, .int x13), (0, .ref (zb g + a0))]) C0 dX12_both_42 2 rfl (by decide) e_x14.symm (by decide) rfl ?_
        refine z_goto C0 6 dX12_both_45 (by decide) ?_
        refine z_sub (lo1 := [(0, .ref (zb g + a0)), (1, .int x13), (2, .int x14)]) [2, 1, 0] rfl ?_
        exact ih _ _ _ h kx
      · have h := e_x13.symm
        refine z_icmp_ge C0 40 dX12_both_24 (by decide) (fun c11 => ?_) (fun c11 => ?_)
        · have h := zif_t c11 h
          refine z_iload_n C0 dX12_both_40 rfl 1 rfl ?_
          refine z_sub (lo1 := [(0, .ref (zb g + a0)), (2, .int y3)]) [0, 2] rfl ?_
          obtain rfl := h
          exact k_J12
        · have h := zif_f c11 h
          refine z_aload_n C0 dX12_both_27 rfl 0 rfl ?_
          refine z_getr C0 hU1 kf_12_41 zr_12_31 zx_12 (zs_12_31 hU1).1 dX12_both_28 ?_
          refine z_iconst (v := (4 : Int32)) C0 dX12_both_31 (by decide) ?_
          refine z_iload_n C0 dX12_both_32 rfl 2 rfl ?_
          refine z_imul C0 dX12_both_33 ?_
          refine z_iconst (v := (3 : Int32)) C0 dX12_both_34 (by decide) ?_
          refine z_iadd C0 dX12_both_35 ?_
          refine z_iald C0 (zs_12_31 hU1).2 g10 rfl dX12_both_36 ?_
          refine z_goto C0 41 dX12_both_37 (by decide) ?_
          refine z_sub (lo1 := [(0, .ref (zb g + a0)), (2, .int y3)]) [0, 2] rfl ?_
          obtain rfl := h
          exact k_J12
set_option maxHeartbeats 4000000 in
set_option maxRecDepth 100000 in
theorem r_X12_both {l : Launch} {g : zL} (a0 : Nat) (μ : zM) (hT0 : zT zNN zσ1 a0 12) {rv : Int32} (h : f_X12_both a0 μ = some rv) : zMet l g yX12_both cX12_both 3 (some (.int)) 0 0 0 zNN zNN zσ1 zσ1 [.ref (zb g + a0)] μ (some (.int rv)) μ := by
  refine zMet.of (by decide +kernel) (Nat.le_of_ble_eq_true rfl) ?_
  intro p e s m args below meth c C0
  refine z_loc (lo1 := [(0, .ref (zb g + a0))]) rfl ?_
  unfold f_X12_both at h
  refine z_ldcw C0 dX12_both_0 kk_RX12_335 ?_
  refine z_istore_n (lo1 := [(1, .int (1000000 : Int32)), (0, .ref (zb g + a0))]) C0 dX12_both_3 rfl (by decide) rfl ?_
  refine z_iconst (v := (0 : Int32)) C0 dX12_both_4 (by decide) ?_
  refine z_istore_n (lo1 := [(2, .int (0 : Int32)), (1, .int (1000000 : Int32)), (0, .ref (zb g + a0))]) C0 dX12_both_5 rfl (by decide) rfl ?_
  refine z_sub (lo1 := [(0, .ref (zb g + a0)), (1, .int (1000000 : Int32)), (2, .int (0 : Int32))]) [2, 1, 0] rfl ?_
  obtain ⟨x15, e_x15, h⟩ := zbd_of h
  refine r_X12_both_L6 C0 a0 μ hT0 zFU (1000000 : Int32) (0 : Int32) x15 e_x15 ?_
  refine z_iload_n C0 dX12_both_48 rfl 0 rfl ?_
  refine z_ldcw C0 dX12_both_49 kk_RX12_335 ?_
  obtain ⟨x18, e_x18, h⟩ := zl_of h
  refine z_join μ 60 [] [.int x18] ?_ (fun k_J17 => ?_)
  · have h := Option.some.inj h
    obtain rfl := h
    exact z_iret C0 rfl dX12_both_60
  · have h := e_x18.symm
    refine z_icmp_ge C0 59 dX12_both_52 (by decide) (fun c16 => ?_) (fun c16 => ?_)
    · have h := zif_t c16 h
      refine z_iconst (v := (-1 : Int32)) C0 dX12_both_59 (by decide) ?_
      refine z_sub (lo1 := []) [] rfl ?_
      obtain rfl := h
      exact k_J17
    · have h := zif_f c16 h
      refine z_iload_n C0 dX12_both_55 rfl 0 rfl ?_
      refine z_goto C0 60 dX12_both_56 (by decide) ?_
      refine z_sub (lo1 := []) [] rfl ?_
      obtain rfl := h
      exact k_J17
def f_X12_ends (a0 : Nat) (μ : zM) : zM :=
  if (μ a0 8) = 0 then
    zl (zup μ a0 8 (1 : Int32)) fun μ2 =>
    zl (zup μ2 (a0 + 1) 6 (1 : Int32)) fun μ3 =>
    zl (zup μ3 (a0 + 1) 7 (μ3 a0 4)) fun μ4 =>
    μ4
  else
    μ
set_option maxHeartbeats 4000000 in
set_option maxRecDepth 100000 in
theorem r_X12_ends {l : Launch} {g : zL} (a0 : Nat) (μ : zM) (hT0 : zT zNN zσ1 a0 12) {μr : zM} (h : f_X12_ends a0 μ = μr) : zMet l g yX12_ends cX12_ends 1 none 0 0 0 zNN zNN zσ1 zσ1 [.ref (zb g + a0)] μ none μr := by
  refine zMet.of (by decide +kernel) (Nat.le_of_ble_eq_true rfl) ?_
  intro p e s m args below meth c C0
  refine z_loc (lo1 := [(0, .ref (zb g + a0))]) rfl ?_
  unfold f_X12_ends at h
  refine z_aload_n C0 dX12_ends_0 rfl 0 rfl ?_
  refine z_geti C0 hT0.1 hT0.2.2.1 kf_12_102 zr_12_8 dX12_ends_1 ?_
  refine z_if_eq C0 8 dX12_ends_4 (by decide) (fun c1 => ?_) (fun c1 => ?_)
  · have h := zif_t c1 h
    refine z_aload_n C0 dX12_ends_8 rfl 0 rfl ?_
    refine z_iconst (v := (1 : Int32)) C0 dX12_ends_9 (by decide) ?_
    obtain ⟨μ2, e_μ2, h⟩ := zl_of h
    refine z_putb C0 hT0.1 hT0.2.2.1 kf_12_102 zp_12_8 zr_12_8 (by decide) e_μ2 dX12_ends_10 ?_
    refine z_aload_n C0 dX12_ends_13 rfl 0 rfl ?_
    refine z_getr C0 hT0 kf_12_7 zr_12_0 zx_12 (zs_12_0 hT0).1 dX12_ends_14 ?_
    refine z_bipush (v := (6 : Int32)) C0 dX12_ends_17 (by decide) ?_
    refine z_iconst (v := (1 : Int32)) C0 dX12_ends_19 (by decide) ?_
    obtain ⟨μ3, e_μ3, h⟩ := zl_of h
    refine z_iast (j := 6) C0 (zs_12_0 hT0).2 (by decide : zin (6 : Int32) 4688 = true) (by decide) e_μ3 dX12_ends_20 ?_
    refine z_aload_n C0 dX12_ends_21 rfl 0 rfl ?_
    refine z_getr C0 hT0 kf_12_7 zr_12_0 zx_12 (zs_12_0 hT0).1 dX12_ends_22 ?_
    refine z_bipush (v := (7 : Int32)) C0 dX12_ends_25 (by decide) ?_
    refine z_aload_n C0 dX12_ends_27 rfl 0 rfl ?_
    refine z_geti C0 hT0.1 hT0.2.2.1 kf_12_76 zr_12_4 dX12_ends_28 ?_
    obtain ⟨μ4, e_μ4, h⟩ := zl_of h
    refine z_iast (j := 7) C0 (zs_12_0 hT0).2 (by decide : zin (7 : Int32) 4688 = true) (by decide) e_μ4 dX12_ends_31 ?_
    skip
    obtain rfl := h
    exact z_vret C0 rfl dX12_ends_32
  · have h := zif_f c1 h
    skip
    obtain rfl := h
    exact z_vret C0 rfl dX12_ends_7
def f_X12_numbered (a0 : Nat) (v1 : Int32) (v2 : Int32) (μ : zM) : Option (Int32 × zM) :=
  if ((μ a0 8) = 0) ∧ ((μ a0 5) = (1 : Int32)) then
    zl (μ a0 6) fun x3 =>
    zl (if ¬ (f_X12_isIn x3 v1 v2) = 0 then
        μ
      else
        zl (f_X12_also a0 (2 : Int32) (μ a0 4) μ) fun μ6 =>
        μ6) fun μ7 =>
    zbd (f_X12_advance a0 μ7) fun μ8 =>
    zl (if (f_X12_isIn x3 v1 v2) = 0 then
        v1
      else
        x3) fun x11 =>
    some (x11, μ8)
  else
    zl (f_X12_ends a0 μ) fun μ12 =>
    some (v1, μ12)
set_option maxHeartbeats 4000000 in
set_option maxRecDepth 100000 in
theorem r_X12_numbered {l : Launch} {g : zL} (a0 : Nat) (v1 : Int32) (v2 : Int32) (μ : zM) (hT0 : zT zNN zσ1 a0 12) {rv : Int32} {μr : zM} (h : f_X12_numbered a0 v1 v2 μ = some (rv, μr)) : zMet l g yX12_numbered cX12_numbered 4 (some (.int)) 5 0 0 zNN zNN zσ1 zσ1 [.ref (zb g + a0), .int v1, .int v2] μ (some (.int rv)) μr := by
  refine zMet.of (by decide +kernel) (Nat.le_of_ble_eq_true rfl) ?_
  intro p e s m args below meth c C0
  refine z_loc (lo1 := [(0, .ref (zb g + a0)), (1, .int v1), (2, .int v2)]) rfl ?_
  unfold f_X12_numbered at h
  refine z_aload_n C0 dX12_numbered_0 rfl 0 rfl ?_
  refine z_geti C0 hT0.1 hT0.2.2.1 kf_12_102 zr_12_8 dX12_numbered_1 ?_
  by_cases hc13 : ((μ a0 8) = 0) ∧ ((μ a0 5) = (1 : Int32))
  · have h := zif_t hc13 h
    refine z_join μ 21 [(0, .ref (zb g + a0)), (1, .int v1), (2, .int v2)] [] ?_ (fun k14 => ?_)
    · refine z_aload_n C0 dX12_numbered_21 rfl 0 rfl ?_
      refine z_geti C0 hT0.1 hT0.2.2.1 kf_12_99 zr_12_6 dX12_numbered_22 ?_
      obtain ⟨x3, e_x3, h⟩ := zl_of h
      refine z_nm e_x3 ?_
      refine z_istore_n (lo1 := [(3, .int x3), (0, .ref (zb g + a0)), (1, .int v1), (2, .int v2)]) C0 dX12_numbered_25 rfl (by decide) rfl ?_
      refine z_iload_n C0 dX12_numbered_26 rfl 0 rfl ?_
      refine z_iload_n C0 dX12_numbered_27 rfl 2 rfl ?_
      refine z_iload_n C0 dX12_numbered_28 rfl 3 rfl ?_
      refine z_callS (As := [.int x3, .int v1, .int v2]) (rest := []) C0 rfl kc_X12_isIn km_RX12_109 (r_X12_isIn (l := l) (g := g) (μ := μ) x3 v1 v2 rfl) rfl (Nat.le_of_ble_eq_true rfl) (Nat.le_of_ble_eq_true rfl) (Nat.le_of_ble_eq_true rfl) (Nat.le_of_ble_eq_true rfl) (Nat.le_refl _) rfl rfl dX12_numbered_29 ?_
      obtain ⟨μ7, e_μ7, h⟩ := zl_of h
      refine z_join μ7 44 [(0, .ref (zb g + a0)), (1, .int v1), (2, .int v2), (3, .int x3)] [] ?_ (fun k_J5 => ?_)
      · refine z_aload_n C0 dX12_numbered_44 rfl 0 rfl ?_
        obtain ⟨μ8, e_μ8, h⟩ := zbd_of h
        refine z_callV (As := []) (rest := []) C0 rfl kc_X12_advance km_RX12_117 (r_X12_advance (l := l) (g := g) a0 μ7 hT0 e_μ8) hT0.1 hT0.2.2.1 rfl (by decide) rfl (Nat.le_of_ble_eq_true rfl) (Nat.le_of_ble_eq_true rfl) (Nat.le_of_ble_eq_true rfl) (Nat.le_of_ble_eq_true rfl) (Nat.le_refl _) rfl rfl dX12_numbered_45 ?_
        refine z_iload_n C0 dX12_numbered_48 rfl 3 rfl ?_
        refine z_iload_n C0 dX12_numbered_49 rfl 1 rfl ?_
        refine z_iload_n C0 dX12_numbered_50 rfl 2 rfl ?_
        refine z_callS (As := [.int x3, .int v1, .int v2]) (rest := []) C0 rfl kc_X12_isIn km_RX12_109 (r_X12_isIn (l := l) (g := g) (μ := μ8) x3 v1 v2 rfl) rfl (Nat.le_of_ble_eq_true rfl) (Nat.le_of_ble_eq_true rfl) (Nat.le_of_ble_eq_true rfl) (Nat.le_of_ble_eq_true rfl) (Nat.le_refl _) rfl rfl dX12_numbered_51 ?_
        obtain ⟨x11, e_x11, h⟩ := zl_of h
        refine z_join μ8 62 [] [.int x11] ?_ (fun k_J10 => ?_)
        · have h := Option.some.inj h
          obtain ⟨rfl, rfl⟩ := Prod.mk.inj h
          exact z_iret C0 rfl dX12_numbered_62
        · have h := e_x11.symm
          refine z_if_eq C0 61 dX12_numbered_54 (by decide) (fun c9 => ?_) (fun c9 => ?_)
          · have h := zif_t c9 h
            refine z_iload_n C0 dX12_numbered_61 rfl 1 rfl ?_
            refine z_sub (lo1 := []) [] rfl ?_
            obtain rfl := h
            exact k_J10
          · have h := zif_f c9 h
            refine z_iload_n C0 dX12_numbered_57 rfl 3 rfl ?_
            refine z_goto C0 62 dX12_numbered_58 (by decide) ?_
            refine z_sub (lo1 := []) [] rfl ?_
            obtain rfl := h
            exact k_J10
      · have h := e_μ7.symm
        refine z_if_ne C0 44 dX12_numbered_32 (by decide) (fun c4 => ?_) (fun c4 => ?_)
        · have h := zif_t c4 h
          refine z_sub (lo1 := [(0, .ref (zb g + a0)), (1, .int v1), (2, .int v2), (3, .int x3)]) [1, 2, 3, 0] rfl ?_
          obtain rfl := h
          exact k_J5
        · have h := zif_f (fun q => q c4) h
          refine z_aload_n C0 dX12_numbered_35 rfl 1 rfl ?_
          refine z_iconst (v := (2 : Int32)) C0 dX12_numbered_36 (by decide) ?_
          refine z_aload_n C0 dX12_numbered_37 rfl 1 rfl ?_
          refine z_geti C0 hT0.1 hT0.2.2.1 kf_12_76 zr_12_4 dX12_numbered_38 ?_
          obtain ⟨μ6, e_μ6, h⟩ := zl_of h
          refine z_callV (As := [.int (2 : Int32), .int (μ a0 4)]) (rest := []) C0 rfl kc_X12_also km_RX12_113 (r_X12_also (l := l) (g := g) a0 (2 : Int32) (μ a0 4) μ hT0 e_μ6.symm) hT0.1 hT0.2.2.1 rfl (by decide) rfl (Nat.le_of_ble_eq_true rfl) (Nat.le_of_ble_eq_true rfl) (Nat.le_of_ble_eq_true rfl) (Nat.le_of_ble_eq_true rfl) (Nat.le_refl _) rfl rfl dX12_numbered_41 ?_
          refine z_sub (lo1 := [(0, .ref (zb g + a0)), (1, .int v1), (2, .int v2), (3, .int x3)]) [1, 2, 3, 0] rfl ?_
          obtain rfl := h
          exact k_J5
    · refine z_if_ne C0 15 dX12_numbered_4 (by decide) (fun c1 => ?_) (fun c1 => ?_)
      · exact absurd hc13 (fun q => c1 q.1)
      · refine z_aload_n C0 dX12_numbered_7 rfl 0 rfl ?_
        refine z_geti C0 hT0.1 hT0.2.2.1 kf_12_79 zr_12_5 dX12_numbered_8 ?_
        refine z_iconst (v := (1 : Int32)) C0 dX12_numbered_11 (by decide) ?_
        refine z_icmp_eq C0 21 dX12_numbered_12 (by decide) (fun c2 => ?_) (fun c2 => ?_)
        · exact k14
        · exact absurd hc13 (fun q => c2 q.2)
  · have h := zif_f hc13 h
    refine z_join μ 15 [(0, .ref (zb g + a0)), (1, .int v1), (2, .int v2)] [] ?_ (fun k15 => ?_)
    · refine z_aload_n C0 dX12_numbered_15 rfl 0 rfl ?_
      obtain ⟨μ12, e_μ12, h⟩ := zl_of h
      refine z_callV (As := []) (rest := []) C0 rfl kc_X12_ends km_RX12_106 (r_X12_ends (l := l) (g := g) a0 μ hT0 e_μ12.symm) hT0.1 hT0.2.2.1 rfl (by decide) rfl (Nat.le_of_ble_eq_true rfl) (Nat.le_of_ble_eq_true rfl) (Nat.le_of_ble_eq_true rfl) (Nat.le_of_ble_eq_true rfl) (Nat.le_refl _) rfl rfl dX12_numbered_16 ?_
      refine z_iload_n C0 dX12_numbered_19 rfl 1 rfl ?_
      have h := Option.some.inj h
      obtain ⟨rfl, rfl⟩ := Prod.mk.inj h
      exact z_iret C0 rfl dX12_numbered_20
    · refine z_if_ne C0 15 dX12_numbered_4 (by decide) (fun c1 => ?_) (fun c1 => ?_)
      · exact k15
      · refine z_aload_n C0 dX12_numbered_7 rfl 0 rfl ?_
        refine z_geti C0 hT0.1 hT0.2.2.1 kf_12_79 zr_12_5 dX12_numbered_8 ?_
        refine z_iconst (v := (1 : Int32)) C0 dX12_numbered_11 (by decide) ?_
        refine z_icmp_eq C0 21 dX12_numbered_12 (by decide) (fun c2 => ?_) (fun c2 => ?_)
        · exact absurd ⟨c1, c2⟩ hc13
        · exact k15
def f_X12_brothers (a0 : Nat) (μ : zM) : Option (zM) :=
  zbd2 (f_X12_numbered a0 (0 : Int32) (3 : Int32) μ) fun r1 μ2 =>
  zl (if ((μ2 a0 8) = 0) ∧ (((μ2 a0 5) = (1 : Int32)) ∧ ((μ2 a0 6) = r1)) then
      zl (f_X12_also a0 (2 : Int32) (μ2 a0 4) μ2) fun μ7 =>
      μ7
    else
      μ2) fun μ8 =>
  zl (zup μ8 (a0 + 3) 9 r1) fun μ9 =>
  zbd2 (f_X12_numbered a0 (0 : Int32) (3 : Int32) μ9) fun r10 μ11 =>
  zl (zup μ11 (a0 + 3) 10 r10) fun μ12 =>
  some μ12
set_option maxHeartbeats 4000000 in
set_option maxRecDepth 100000 in
theorem r_X12_brothers {l : Launch} {g : zL} (a0 : Nat) (μ : zM) (hT0 : zT zNN zσ1 a0 12) {μr : zM} (h : f_X12_brothers a0 μ = some μr) : zMet l g yX12_brothers cX12_brothers 2 none 6 0 0 zNN zNN zσ1 zσ1 [.ref (zb g + a0)] μ none μr := by
  refine zMet.of (by decide +kernel) (Nat.le_of_ble_eq_true rfl) ?_
  intro p e s m args below meth c C0
  refine z_loc (lo1 := [(0, .ref (zb g + a0))]) rfl ?_
  unfold f_X12_brothers at h
  refine z_aload_n C0 dX12_brothers_0 rfl 0 rfl ?_
  refine z_iconst (v := (0 : Int32)) C0 dX12_brothers_1 (by decide) ?_
  refine z_iconst (v := (3 : Int32)) C0 dX12_brothers_2 (by decide) ?_
  obtain ⟨r1, μ2, e_r1, h⟩ := zbd2_of h
  refine z_callV (As := [.int (0 : Int32), .int (3 : Int32)]) (rest := []) C0 rfl kc_X12_numbered km_RX12_123 (r_X12_numbered (l := l) (g := g) a0 (0 : Int32) (3 : Int32) μ hT0 e_r1) hT0.1 hT0.2.2.1 rfl (by decide) rfl (Nat.le_of_ble_eq_true rfl) (Nat.le_of_ble_eq_true rfl) (Nat.le_of_ble_eq_true rfl) (Nat.le_of_ble_eq_true rfl) (Nat.le_refl _) rfl rfl dX12_brothers_3 ?_
  refine z_istore_n (lo1 := [(1, .int r1), (0, .ref (zb g + a0))]) C0 dX12_brothers_6 rfl (by decide) rfl ?_
  refine z_aload_n C0 dX12_brothers_7 rfl 1 rfl ?_
  refine z_geti C0 hT0.1 hT0.2.2.1 kf_12_102 zr_12_8 dX12_brothers_8 ?_
  obtain ⟨μ8, e_μ8, h⟩ := zl_of h
  refine z_join μ8 39 [(0, .ref (zb g + a0)), (1, .int r1)] [] ?_ (fun k_J6 => ?_)
  · refine z_aload_n C0 dX12_brothers_39 rfl 0 rfl ?_
    refine z_getr C0 hT0 kf_12_17 zr_12_9 zx_12 (zs_12_9 hT0).1 dX12_brothers_40 ?_
    refine z_bipush (v := (9 : Int32)) C0 dX12_brothers_43 (by decide) ?_
    refine z_iload_n C0 dX12_brothers_45 rfl 1 rfl ?_
    obtain ⟨μ9, e_μ9, h⟩ := zl_of h
    refine z_iast (j := 9) C0 (zs_12_9 hT0).2 (by decide : zin (9 : Int32) 121 = true) (by decide) e_μ9 dX12_brothers_46 ?_
    refine z_aload_n C0 dX12_brothers_47 rfl 0 rfl ?_
    refine z_getr C0 hT0 kf_12_17 zr_12_9 zx_12 (zs_12_9 hT0).1 dX12_brothers_48 ?_
    refine z_bipush (v := (10 : Int32)) C0 dX12_brothers_51 (by decide) ?_
    refine z_aload_n C0 dX12_brothers_53 rfl 0 rfl ?_
    refine z_iconst (v := (0 : Int32)) C0 dX12_brothers_54 (by decide) ?_
    refine z_iconst (v := (3 : Int32)) C0 dX12_brothers_55 (by decide) ?_
    obtain ⟨r10, μ11, e_r10, h⟩ := zbd2_of h
    refine z_callV (As := [.int (0 : Int32), .int (3 : Int32)]) (rest := [.int (10 : Int32), .ref (zb g + (a0 + 3))]) C0 rfl kc_X12_numbered km_RX12_123 (r_X12_numbered (l := l) (g := g) a0 (0 : Int32) (3 : Int32) μ9 hT0 e_r10) hT0.1 hT0.2.2.1 rfl (by decide) rfl (Nat.le_of_ble_eq_true rfl) (Nat.le_of_ble_eq_true rfl) (Nat.le_of_ble_eq_true rfl) (Nat.le_of_ble_eq_true rfl) (Nat.le_refl _) rfl rfl dX12_brothers_56 ?_
    obtain ⟨μ12, e_μ12, h⟩ := zl_of h
    refine z_iast (j := 10) C0 (zs_12_9 hT0).2 (by decide : zin (10 : Int32) 121 = true) (by decide) e_μ12 dX12_brothers_59 ?_
    have h := Option.some.inj h
    obtain rfl := h
    exact z_vret C0 rfl dX12_brothers_60
  · have h := e_μ8.symm
    by_cases hc13 : ((μ2 a0 8) = 0) ∧ (((μ2 a0 5) = (1 : Int32)) ∧ ((μ2 a0 6) = r1))
    · have h := zif_t hc13 h
      refine z_join μ2 30 [(1, .int r1), (0, .ref (zb g + a0))] [] ?_ (fun k14 => ?_)
      · refine z_aload_n C0 dX12_brothers_30 rfl 1 rfl ?_
        refine z_iconst (v := (2 : Int32)) C0 dX12_brothers_31 (by decide) ?_
        refine z_aload_n C0 dX12_brothers_32 rfl 1 rfl ?_
        refine z_geti C0 hT0.1 hT0.2.2.1 kf_12_76 zr_12_4 dX12_brothers_33 ?_
        obtain ⟨μ7, e_μ7, h⟩ := zl_of h
        refine z_callV (As := [.int (2 : Int32), .int (μ2 a0 4)]) (rest := []) C0 rfl kc_X12_also km_RX12_113 (r_X12_also (l := l) (g := g) a0 (2 : Int32) (μ2 a0 4) μ2 hT0 e_μ7.symm) hT0.1 hT0.2.2.1 rfl (by decide) rfl (Nat.le_of_ble_eq_true rfl) (Nat.le_of_ble_eq_true rfl) (Nat.le_of_ble_eq_true rfl) (Nat.le_of_ble_eq_true rfl) (Nat.le_refl _) rfl rfl dX12_brothers_36 ?_
        refine z_sub (lo1 := [(0, .ref (zb g + a0)), (1, .int r1)]) [1, 0] rfl ?_
        obtain rfl := h
        exact k_J6
      · refine z_if_ne C0 39 dX12_brothers_11 (by decide) (fun c3 => ?_) (fun c3 => ?_)
        · exact absurd hc13 (fun q => c3 q.1)
        · refine z_aload_n C0 dX12_brothers_14 rfl 1 rfl ?_
          refine z_geti C0 hT0.1 hT0.2.2.1 kf_12_79 zr_12_5 dX12_brothers_15 ?_
          refine z_iconst (v := (1 : Int32)) C0 dX12_brothers_18 (by decide) ?_
          refine z_icmp_ne C0 39 dX12_brothers_19 (by decide) (fun c4 => ?_) (fun c4 => ?_)
          · exact absurd hc13 (fun q => (fun q => c4 q.1) q.2)
          · refine z_aload_n C0 dX12_brothers_22 rfl 1 rfl ?_
            refine z_geti C0 hT0.1 hT0.2.2.1 kf_12_99 zr_12_6 dX12_brothers_23 ?_
            refine z_iload_n C0 dX12_brothers_26 rfl 0 rfl ?_
            refine z_icmp_ne C0 39 dX12_brothers_27 (by decide) (fun c5 => ?_) (fun c5 => ?_)
            · exact absurd hc13 (fun q => (fun q => (fun q => c5 q) q.2) q.2)
            · exact k14
    · have h := zif_f hc13 h
      refine z_join μ2 39 [(1, .int r1), (0, .ref (zb g + a0))] [] ?_ (fun k15 => ?_)
      · refine z_sub (lo1 := [(0, .ref (zb g + a0)), (1, .int r1)]) [1, 0] rfl ?_
        obtain rfl := h
        exact k_J6
      · refine z_if_ne C0 39 dX12_brothers_11 (by decide) (fun c3 => ?_) (fun c3 => ?_)
        · exact k15
        · refine z_aload_n C0 dX12_brothers_14 rfl 1 rfl ?_
          refine z_geti C0 hT0.1 hT0.2.2.1 kf_12_79 zr_12_5 dX12_brothers_15 ?_
          refine z_iconst (v := (1 : Int32)) C0 dX12_brothers_18 (by decide) ?_
          refine z_icmp_ne C0 39 dX12_brothers_19 (by decide) (fun c4 => ?_) (fun c4 => ?_)
          · exact k15
          · refine z_aload_n C0 dX12_brothers_22 rfl 1 rfl ?_
            refine z_geti C0 hT0.1 hT0.2.2.1 kf_12_99 zr_12_6 dX12_brothers_23 ?_
            refine z_iload_n C0 dX12_brothers_26 rfl 0 rfl ?_
            refine z_icmp_ne C0 39 dX12_brothers_27 (by decide) (fun c5 => ?_) (fun c5 => ?_)
            · exact k15
            · exact absurd ⟨c3, ⟨c4, c5⟩⟩ hc13
def f_X12_deedOf (a0 : Nat) (v1 : Int32) (v2 : Int32) (μ : zM) : Option (Int32) :=
  zg (zin ((((μ a0 11) + (1 : Int32)) + ((3 : Int32) * v1)) + v2) 4688) <|
  some (μ (a0 + 1) (((((μ a0 11) + (1 : Int32)) + ((3 : Int32) * v1)) + v2).toNatClampNeg))
set_option maxHeartbeats 4000000 in
set_option maxRecDepth 100000 in
theorem r_X12_deedOf {l : Launch} {g : zL} (a0 : Nat) (v1 : Int32) (v2 : Int32) (μ : zM) (hT0 : zT zNN zσ1 a0 12) {rv : Int32} (h : f_X12_deedOf a0 v1 v2 μ = some rv) : zMet l g yX12_deedOf cX12_deedOf 3 (some (.int)) 0 0 0 zNN zNN zσ1 zσ1 [.ref (zb g + a0), .int v1, .int v2] μ (some (.int rv)) μ := by
  refine zMet.of (by decide +kernel) (Nat.le_of_ble_eq_true rfl) ?_
  intro p e s m args below meth c C0
  refine z_loc (lo1 := [(0, .ref (zb g + a0)), (1, .int v1), (2, .int v2)]) rfl ?_
  unfold f_X12_deedOf at h
  refine z_aload_n C0 dX12_deedOf_0 rfl 0 rfl ?_
  refine z_getr C0 hT0 kf_12_7 zr_12_0 zx_12 (zs_12_0 hT0).1 dX12_deedOf_1 ?_
  refine z_aload_n C0 dX12_deedOf_4 rfl 0 rfl ?_
  refine z_geti C0 hT0.1 hT0.2.2.1 kf_12_209 zr_12_11 dX12_deedOf_5 ?_
  refine z_iconst (v := (1 : Int32)) C0 dX12_deedOf_8 (by decide) ?_
  refine z_iadd C0 dX12_deedOf_9 ?_
  refine z_iconst (v := (3 : Int32)) C0 dX12_deedOf_10 (by decide) ?_
  refine z_iload_n C0 dX12_deedOf_11 rfl 1 rfl ?_
  refine z_imul C0 dX12_deedOf_12 ?_
  refine z_iadd C0 dX12_deedOf_13 ?_
  refine z_iload_n C0 dX12_deedOf_14 rfl 2 rfl ?_
  refine z_iadd C0 dX12_deedOf_15 ?_
  obtain ⟨g1, h⟩ := zg_of h
  refine z_iald C0 (zs_12_0 hT0).2 g1 rfl dX12_deedOf_16 ?_
  have h := Option.some.inj h
  obtain rfl := h
  exact z_iret C0 rfl dX12_deedOf_17
def f_X12_isMourner (a0 : Nat) (v1 : Int32) (μ : zM) : Option (Int32) :=
  zbd (f_X12_mourners a0 μ) fun r1 =>
  zg (z01 (f_X12_isIn v1 (0 : Int32) (r1 - (1 : Int32)))) <|
  some (f_X12_isIn v1 (0 : Int32) (r1 - (1 : Int32)))
set_option maxHeartbeats 4000000 in
set_option maxRecDepth 100000 in
theorem r_X12_isMourner {l : Launch} {g : zL} (a0 : Nat) (v1 : Int32) (μ : zM) (hT0 : zT zNN zσ1 a0 12) {rv : Int32} (h : f_X12_isMourner a0 v1 μ = some rv) : zMet l g yX12_isMourner cX12_isMourner 2 (some (.boolean)) 2 0 0 zNN zNN zσ1 zσ1 [.ref (zb g + a0), .int v1] μ (some (.int rv)) μ := by
  refine zMet.of (by decide +kernel) (Nat.le_of_ble_eq_true rfl) ?_
  intro p e s m args below meth c C0
  refine z_loc (lo1 := [(0, .ref (zb g + a0)), (1, .int v1)]) rfl ?_
  unfold f_X12_isMourner at h
  refine z_iload_n C0 dX12_isMourner_0 rfl 1 rfl ?_
  refine z_iconst (v := (0 : Int32)) C0 dX12_isMourner_1 (by decide) ?_
  refine z_aload_n C0 dX12_isMourner_2 rfl 0 rfl ?_
  obtain ⟨r1, e_r1, h⟩ := zbd_of h
  refine z_callV (As := []) (rest := [.int (0 : Int32), .int v1]) C0 rfl kc_X12_mourners km_RX12_183 (r_X12_mourners (l := l) (g := g) a0 μ hT0 e_r1) hT0.1 hT0.2.2.1 rfl (by decide) rfl (Nat.le_of_ble_eq_true rfl) (Nat.le_of_ble_eq_true rfl) (Nat.le_of_ble_eq_true rfl) (Nat.le_of_ble_eq_true rfl) (Nat.le_refl _) rfl rfl dX12_isMourner_3 ?_
  refine z_iconst (v := (1 : Int32)) C0 dX12_isMourner_6 (by decide) ?_
  refine z_isub C0 dX12_isMourner_7 ?_
  refine z_callS (As := [.int v1, .int (0 : Int32), .int (r1 - (1 : Int32))]) (rest := []) C0 rfl kc_X12_isIn km_RX12_109 (r_X12_isIn (l := l) (g := g) (μ := μ) v1 (0 : Int32) (r1 - (1 : Int32)) rfl) rfl (Nat.le_of_ble_eq_true rfl) (Nat.le_of_ble_eq_true rfl) (Nat.le_of_ble_eq_true rfl) (Nat.le_of_ble_eq_true rfl) (Nat.le_refl _) rfl rfl dX12_isMourner_8 ?_
  obtain ⟨g2, h⟩ := zg_of h
  have h := Option.some.inj h
  obtain rfl := h
  exact z_zret C0 rfl g2 dX12_isMourner_11
def f_X12_isPlace (a0 : Nat) (v1 : Int32) (μ : zM) : Option (Int32) :=
  zbd (f_X12_places a0 μ) fun r1 =>
  zg (z01 (f_X12_isIn v1 (0 : Int32) (r1 - (1 : Int32)))) <|
  some (f_X12_isIn v1 (0 : Int32) (r1 - (1 : Int32)))
set_option maxHeartbeats 4000000 in
set_option maxRecDepth 100000 in
theorem r_X12_isPlace {l : Launch} {g : zL} (a0 : Nat) (v1 : Int32) (μ : zM) (hT0 : zT zNN zσ1 a0 12) {rv : Int32} (h : f_X12_isPlace a0 v1 μ = some rv) : zMet l g yX12_isPlace cX12_isPlace 2 (some (.boolean)) 2 0 0 zNN zNN zσ1 zσ1 [.ref (zb g + a0), .int v1] μ (some (.int rv)) μ := by
  refine zMet.of (by decide +kernel) (Nat.le_of_ble_eq_true rfl) ?_
  intro p e s m args below meth c C0
  refine z_loc (lo1 := [(0, .ref (zb g + a0)), (1, .int v1)]) rfl ?_
  unfold f_X12_isPlace at h
  refine z_iload_n C0 dX12_isPlace_0 rfl 1 rfl ?_
  refine z_iconst (v := (0 : Int32)) C0 dX12_isPlace_1 (by decide) ?_
  refine z_aload_n C0 dX12_isPlace_2 rfl 0 rfl ?_
  obtain ⟨r1, e_r1, h⟩ := zbd_of h
  refine z_callV (As := []) (rest := [.int (0 : Int32), .int v1]) C0 rfl kc_X12_places km_RX12_257 (r_X12_places (l := l) (g := g) a0 μ hT0 e_r1) hT0.1 hT0.2.2.1 rfl (by decide) rfl (Nat.le_of_ble_eq_true rfl) (Nat.le_of_ble_eq_true rfl) (Nat.le_of_ble_eq_true rfl) (Nat.le_of_ble_eq_true rfl) (Nat.le_refl _) rfl rfl dX12_isPlace_3 ?_
  refine z_iconst (v := (1 : Int32)) C0 dX12_isPlace_6 (by decide) ?_
  refine z_isub C0 dX12_isPlace_7 ?_
  refine z_callS (As := [.int v1, .int (0 : Int32), .int (r1 - (1 : Int32))]) (rest := []) C0 rfl kc_X12_isIn km_RX12_109 (r_X12_isIn (l := l) (g := g) (μ := μ) v1 (0 : Int32) (r1 - (1 : Int32)) rfl) rfl (Nat.le_of_ble_eq_true rfl) (Nat.le_of_ble_eq_true rfl) (Nat.le_of_ble_eq_true rfl) (Nat.le_of_ble_eq_true rfl) (Nat.le_refl _) rfl rfl dX12_isPlace_8 ?_
  obtain ⟨g2, h⟩ := zg_of h
  have h := Option.some.inj h
  obtain rfl := h
  exact z_zret C0 rfl g2 dX12_isPlace_11
def f_X12_can (a0 : Nat) (v1 : Int32) (μ : zM) : Option (Int32) :=
  zbd (f_X12_deedOf a0 v1 (1 : Int32) μ) fun r1 =>
  zbd (f_X12_deedOf a0 v1 (2 : Int32) μ) fun r2 =>
  if (μ a0 17) = 0 then
    zbd (f_X12_deedOf a0 v1 (0 : Int32) μ) fun r4 =>
    if r4 = (0 : Int32) then
      zbd (f_X12_isMourner a0 r1 μ) fun r5 =>
      zbd (zbd (if r5 = 0 then
            some false
          else
            zbd (f_X12_isPlace a0 r2 μ) fun r8 =>
            if r8 = 0 then
              some false
            else
              zg (zin r1 5) <|
              if (μ (a0 + 4) (r1.toNatClampNeg)) = r2 then
                some false
              else
                some true) fun b13 =>
        if b13 = true then
          some (1 : Int32)
        else
          some (0 : Int32)) fun x15 =>
      zg (z01 x15) <|
      some x15
    else
    if r4 = (1 : Int32) then
      zbd (f_X12_isMourner a0 r1 μ) fun r17 =>
      zbd (zbd (if r17 = 0 then
            some false
          else
            zg (zin r1 5) <|
            if (μ (a0 + 4) (r1.toNatClampNeg)) = (-1 : Int32) then
              some false
            else
              some true) fun b22 =>
        if b22 = true then
          some (1 : Int32)
        else
          some (0 : Int32)) fun x24 =>
      zg (z01 x24) <|
      some x24
    else
    if r4 = (3 : Int32) then
      zl (if (μ a0 20) = (-1 : Int32) then
          (0 : Int32)
        else
          (1 : Int32)) fun x28 =>
      some x28
    else
    if r4 = (4 : Int32) then
      zl (if ¬ (μ a0 18) = 0 then
          (0 : Int32)
        else
          (1 : Int32)) fun x31 =>
      some x31
    else
    if r4 = (5 : Int32) then
      zg (z01 (μ a0 18)) <|
      some (μ a0 18)
    else
    if r4 = (6 : Int32) then
      zbd (zbd (if ¬ (μ a0 19) = 0 then
            some false
          else
            zbd (f_X12_sidesAt a0 (μ a0 12) (μ a0 13) μ) fun r35 =>
            if r35 = 0 then
              some false
            else
              some true) fun b37 =>
        if b37 = true then
          some (1 : Int32)
        else
          some (0 : Int32)) fun x39 =>
      zg (z01 x39) <|
      some x39
    else
    if r4 = (7 : Int32) then
      zg (z01 (μ a0 19)) <|
      some (μ a0 19)
    else
    if r4 = (8 : Int32) then
      zbd (f_X12_isPlace a0 r1 μ) fun r42 =>
      zbd (zbd (if r42 = 0 then
            some false
          else
            zg (zin r1 16) <|
            if (μ (a0 + 5) (r1.toNatClampNeg)) ≤ 0 then
              some false
            else
              some true) fun b47 =>
        if b47 = true then
          some (1 : Int32)
        else
          some (0 : Int32)) fun x49 =>
      zg (z01 x49) <|
      some x49
    else
      some (1 : Int32)
  else
    some (0 : Int32)
set_option maxHeartbeats 4000000 in
set_option maxRecDepth 100000 in
theorem r_X12_can {l : Launch} {g : zL} (a0 : Nat) (v1 : Int32) (μ : zM) (hT0 : zT zNN zσ1 a0 12) {rv : Int32} (h : f_X12_can a0 v1 μ = some rv) : zMet l g yX12_can cX12_can 4 (some (.boolean)) 3 0 0 zNN zNN zσ1 zσ1 [.ref (zb g + a0), .int v1] μ (some (.int rv)) μ := by
  refine zMet.of (by decide +kernel) (Nat.le_of_ble_eq_true rfl) ?_
  intro p e s m args below meth c C0
  refine z_loc (lo1 := [(0, .ref (zb g + a0)), (1, .int v1)]) rfl ?_
  unfold f_X12_can at h
  refine z_aload_n C0 dX12_can_0 rfl 0 rfl ?_
  refine z_iload_n C0 dX12_can_1 rfl 1 rfl ?_
  refine z_iconst (v := (1 : Int32)) C0 dX12_can_2 (by decide) ?_
  obtain ⟨r1, e_r1, h⟩ := zbd_of h
  refine z_callV (As := [.int v1, .int (1 : Int32)]) (rest := []) C0 rfl kc_X12_deedOf km_RX12_215 (r_X12_deedOf (l := l) (g := g) a0 v1 (1 : Int32) μ hT0 e_r1) hT0.1 hT0.2.2.1 rfl (by decide) rfl (Nat.le_of_ble_eq_true rfl) (Nat.le_of_ble_eq_true rfl) (Nat.le_of_ble_eq_true rfl) (Nat.le_of_ble_eq_true rfl) (Nat.le_refl _) rfl rfl dX12_can_3 ?_
  refine z_istore_n (lo1 := [(2, .int r1), (0, .ref (zb g + a0)), (1, .int v1)]) C0 dX12_can_6 rfl (by decide) rfl ?_
  refine z_aload_n C0 dX12_can_7 rfl 1 rfl ?_
  refine z_iload_n C0 dX12_can_8 rfl 2 rfl ?_
  refine z_iconst (v := (2 : Int32)) C0 dX12_can_9 (by decide) ?_
  obtain ⟨r2, e_r2, h⟩ := zbd_of h
  refine z_callV (As := [.int v1, .int (2 : Int32)]) (rest := []) C0 rfl kc_X12_deedOf km_RX12_215 (r_X12_deedOf (l := l) (g := g) a0 v1 (2 : Int32) μ hT0 e_r2) hT0.1 hT0.2.2.1 rfl (by decide) rfl (Nat.le_of_ble_eq_true rfl) (Nat.le_of_ble_eq_true rfl) (Nat.le_of_ble_eq_true rfl) (Nat.le_of_ble_eq_true rfl) (Nat.le_refl _) rfl rfl dX12_can_10 ?_
  refine z_istore_n (lo1 := [(3, .int r2), (2, .int r1), (0, .ref (zb g + a0)), (1, .int v1)]) C0 dX12_can_13 rfl (by decide) rfl ?_
  refine z_aload_n C0 dX12_can_14 rfl 2 rfl ?_
  refine z_geti C0 hT0.1 hT0.2.2.1 kf_12_236 zr_12_17 dX12_can_15 ?_
  refine z_if_eq C0 23 dX12_can_18 (by decide) (fun c3 => ?_) (fun c3 => ?_)
  · have h := zif_t c3 h
    refine z_aload_n C0 dX12_can_23 rfl 2 rfl ?_
    refine z_iload_n C0 dX12_can_24 rfl 3 rfl ?_
    refine z_iconst (v := (0 : Int32)) C0 dX12_can_25 (by decide) ?_
    obtain ⟨r4, e_r4, h⟩ := zbd_of h
    refine z_callV (As := [.int v1, .int (0 : Int32)]) (rest := []) C0 rfl kc_X12_deedOf km_RX12_215 (r_X12_deedOf (l := l) (g := g) a0 v1 (0 : Int32) μ hT0 e_r4) hT0.1 hT0.2.2.1 rfl (by decide) rfl (Nat.le_of_ble_eq_true rfl) (Nat.le_of_ble_eq_true rfl) (Nat.le_of_ble_eq_true rfl) (Nat.le_of_ble_eq_true rfl) (Nat.le_refl _) rfl rfl dX12_can_26 ?_
    by_cases c51 : r4 = (0 : Int32)
    · have h := zif_t c51 h
      refine z_tabK C0 (51) 80 dX12_can_29 c51 (by decide) (by decide) (by decide) (by decide) ?_
      refine z_aload_n C0 dX12_can_80 rfl 2 rfl ?_
      refine z_iload_n C0 dX12_can_81 rfl 1 rfl ?_
      obtain ⟨r5, e_r5, h⟩ := zbd_of h
      refine z_callV (As := [.int r1]) (rest := []) C0 rfl kc_X12_isMourner km_RX12_285 (r_X12_isMourner (l := l) (g := g) a0 r1 μ hT0 e_r5) hT0.1 hT0.2.2.1 rfl (by decide) rfl (Nat.le_of_ble_eq_true rfl) (Nat.le_of_ble_eq_true rfl) (Nat.le_of_ble_eq_true rfl) (Nat.le_of_ble_eq_true rfl) (Nat.le_refl _) rfl rfl dX12_can_82 ?_
      obtain ⟨x15, e_x15, h⟩ := zbd_of h
      refine z_join μ 111 [] [.int x15] ?_ (fun k_J14 => ?_)
      · obtain ⟨g16, h⟩ := zg_of h
        have h := Option.some.inj h
        obtain rfl := h
        exact z_zret C0 rfl g16 dX12_can_111
      · have h := e_x15
        obtain ⟨b13, e_b13, h⟩ := zbd_of h
        refine z_joinb b13 μ 106 110 [(3, .int r2), (2, .int r1), (0, .ref (zb g + a0)), (1, .int v1)] [] (fun z54 => ?_) (fun z54 => ?_) (fun k52 k53 => ?_)
        · have h := zif_t z54 h
          refine z_iconst (v := (1 : Int32)) C0 dX12_can_106 (by decide) ?_
          refine z_goto C0 111 dX12_can_107 (by decide) ?_
          refine z_sub (lo1 := []) [] rfl ?_
          obtain rfl := (Option.some.inj h)
          exact k_J14
        · have h := zif_f (fun q => Bool.noConfusion (z54.symm.trans q)) h
          refine z_iconst (v := (0 : Int32)) C0 dX12_can_110 (by decide) ?_
          refine z_sub (lo1 := []) [] rfl ?_
          obtain rfl := (Option.some.inj h)
          exact k_J14
        · have h := e_b13
          refine z_if_eq C0 110 dX12_can_85 (by decide) (fun c6 => ?_) (fun c6 => ?_)
          · have h := zif_t c6 h
            exact k53 (Option.some.inj h).symm
          · have h := zif_f c6 h
            refine z_aload_n C0 dX12_can_88 rfl 2 rfl ?_
            refine z_iload_n C0 dX12_can_89 rfl 0 rfl ?_
            obtain ⟨r8, e_r8, h⟩ := zbd_of h
            refine z_callV (As := [.int r2]) (rest := []) C0 rfl kc_X12_isPlace km_RX12_288 (r_X12_isPlace (l := l) (g := g) a0 r2 μ hT0 e_r8) hT0.1 hT0.2.2.1 rfl (by decide) rfl (Nat.le_of_ble_eq_true rfl) (Nat.le_of_ble_eq_true rfl) (Nat.le_of_ble_eq_true rfl) (Nat.le_of_ble_eq_true rfl) (Nat.le_refl _) rfl rfl dX12_can_90 ?_
            refine z_if_eq C0 110 dX12_can_93 (by decide) (fun c9 => ?_) (fun c9 => ?_)
            · have h := zif_t c9 h
              exact k53 (Option.some.inj h).symm
            · have h := zif_f c9 h
              refine z_aload_n C0 dX12_can_96 rfl 2 rfl ?_
              refine z_getr C0 hT0 kf_12_20 zr_12_23 zx_12 (zs_12_23 hT0).1 dX12_can_97 ?_
              refine z_iload_n C0 dX12_can_100 rfl 1 rfl ?_
              obtain ⟨g11, h⟩ := zg_of h
              refine z_iald C0 (zs_12_23 hT0).2 g11 rfl dX12_can_101 ?_
              refine z_iload_n C0 dX12_can_102 rfl 0 rfl ?_
              refine z_icmp_eq C0 110 dX12_can_103 (by decide) (fun c12 => ?_) (fun c12 => ?_)
              · have h := zif_t c12 h
                exact k53 (Option.some.inj h).symm
              · have h := zif_f c12 h
                exact k52 (Option.some.inj h).symm
    · have h := zif_f c51 h
      by_cases c55 : r4 = (1 : Int32)
      · have h := zif_t c55 h
        refine z_tabK C0 (83) 112 dX12_can_29 c55 (by decide) (by decide) (by decide) (by decide) ?_
        refine z_aload_n C0 dX12_can_112 rfl 2 rfl ?_
        refine z_iload_n C0 dX12_can_113 rfl 1 rfl ?_
        obtain ⟨r17, e_r17, h⟩ := zbd_of h
        refine z_callV (As := [.int r1]) (rest := []) C0 rfl kc_X12_isMourner km_RX12_285 (r_X12_isMourner (l := l) (g := g) a0 r1 μ hT0 e_r17) hT0.1 hT0.2.2.1 rfl (by decide) rfl (Nat.le_of_ble_eq_true rfl) (Nat.le_of_ble_eq_true rfl) (Nat.le_of_ble_eq_true rfl) (Nat.le_of_ble_eq_true rfl) (Nat.le_refl _) rfl rfl dX12_can_114 ?_
        obtain ⟨x24, e_x24, h⟩ := zbd_of h
        refine z_join μ 135 [] [.int x24] ?_ (fun k_J23 => ?_)
        · obtain ⟨g25, h⟩ := zg_of h
          have h := Option.some.inj h
          obtain rfl := h
          exact z_zret C0 rfl g25 dX12_can_135
        · have h := e_x24
          obtain ⟨b22, e_b22, h⟩ := zbd_of h
          refine z_joinb b22 μ 130 134 [(3, .int r2), (2, .int r1), (0, .ref (zb g + a0)), (1, .int v1)] [] (fun z58 => ?_) (fun z58 => ?_) (fun k56 k57 => ?_)
          · have h := zif_t z58 h
            refine z_iconst (v := (1 : Int32)) C0 dX12_can_130 (by decide) ?_
            refine z_goto C0 135 dX12_can_131 (by decide) ?_
            refine z_sub (lo1 := []) [] rfl ?_
            obtain rfl := (Option.some.inj h)
            exact k_J23
          · have h := zif_f (fun q => Bool.noConfusion (z58.symm.trans q)) h
            refine z_iconst (v := (0 : Int32)) C0 dX12_can_134 (by decide) ?_
            refine z_sub (lo1 := []) [] rfl ?_
            obtain rfl := (Option.some.inj h)
            exact k_J23
          · have h := e_b22
            refine z_if_eq C0 134 dX12_can_117 (by decide) (fun c18 => ?_) (fun c18 => ?_)
            · have h := zif_t c18 h
              exact k57 (Option.some.inj h).symm
            · have h := zif_f c18 h
              refine z_aload_n C0 dX12_can_120 rfl 2 rfl ?_
              refine z_getr C0 hT0 kf_12_20 zr_12_23 zx_12 (zs_12_23 hT0).1 dX12_can_121 ?_
              refine z_iload_n C0 dX12_can_124 rfl 1 rfl ?_
              obtain ⟨g20, h⟩ := zg_of h
              refine z_iald C0 (zs_12_23 hT0).2 g20 rfl dX12_can_125 ?_
              refine z_iconst (v := (-1 : Int32)) C0 dX12_can_126 (by decide) ?_
              refine z_icmp_eq C0 134 dX12_can_127 (by decide) (fun c21 => ?_) (fun c21 => ?_)
              · have h := zif_t c21 h
                exact k57 (Option.some.inj h).symm
              · have h := zif_f c21 h
                exact k56 (Option.some.inj h).symm
      · have h := zif_f c55 h
        by_cases c59 : r4 = (3 : Int32)
        · have h := zif_t c59 h
          refine z_tabK C0 (107) 136 dX12_can_29 c59 (by decide) (by decide) (by decide) (by decide) ?_
          refine z_aload_n C0 dX12_can_136 rfl 2 rfl ?_
          refine z_geti C0 hT0.1 hT0.2.2.1 kf_12_245 zr_12_20 dX12_can_137 ?_
          refine z_iconst (v := (-1 : Int32)) C0 dX12_can_140 (by decide) ?_
          obtain ⟨x28, e_x28, h⟩ := zl_of h
          refine z_join μ 149 [] [.int x28] ?_ (fun k_J27 => ?_)
          · have h := Option.some.inj h
            obtain rfl := h
            exact z_zret C0 rfl (by rw [e_x28]; repeat' split <;> rfl) dX12_can_149
          · have h := e_x28.symm
            refine z_icmp_eq C0 148 dX12_can_141 (by decide) (fun c26 => ?_) (fun c26 => ?_)
            · have h := zif_t c26 h
              refine z_iconst (v := (0 : Int32)) C0 dX12_can_148 (by decide) ?_
              refine z_sub (lo1 := []) [] rfl ?_
              obtain rfl := h
              exact k_J27
            · have h := zif_f c26 h
              refine z_iconst (v := (1 : Int32)) C0 dX12_can_144 (by decide) ?_
              refine z_goto C0 149 dX12_can_145 (by decide) ?_
              refine z_sub (lo1 := []) [] rfl ?_
              obtain rfl := h
              exact k_J27
        · have h := zif_f c59 h
          by_cases c60 : r4 = (4 : Int32)
          · have h := zif_t c60 h
            refine z_tabK C0 (121) 150 dX12_can_29 c60 (by decide) (by decide) (by decide) (by decide) ?_
            refine z_aload_n C0 dX12_can_150 rfl 2 rfl ?_
            refine z_geti C0 hT0.1 hT0.2.2.1 kf_12_239 zr_12_18 dX12_can_151 ?_
            obtain ⟨x31, e_x31, h⟩ := zl_of h
            refine z_join μ 162 [] [.int x31] ?_ (fun k_J30 => ?_)
            · have h := Option.some.inj h
              obtain rfl := h
              exact z_zret C0 rfl (by rw [e_x31]; repeat' split <;> rfl) dX12_can_162
            · have h := e_x31.symm
              refine z_if_ne C0 161 dX12_can_154 (by decide) (fun c29 => ?_) (fun c29 => ?_)
              · have h := zif_t c29 h
                refine z_iconst (v := (0 : Int32)) C0 dX12_can_161 (by decide) ?_
                refine z_sub (lo1 := []) [] rfl ?_
                obtain rfl := h
                exact k_J30
              · have h := zif_f (fun q => q c29) h
                refine z_iconst (v := (1 : Int32)) C0 dX12_can_157 (by decide) ?_
                refine z_goto C0 162 dX12_can_158 (by decide) ?_
                refine z_sub (lo1 := []) [] rfl ?_
                obtain rfl := h
                exact k_J30
          · have h := zif_f c60 h
            by_cases c61 : r4 = (5 : Int32)
            · have h := zif_t c61 h
              refine z_tabK C0 (134) 163 dX12_can_29 c61 (by decide) (by decide) (by decide) (by decide) ?_
              refine z_aload_n C0 dX12_can_163 rfl 2 rfl ?_
              refine z_geti C0 hT0.1 hT0.2.2.1 kf_12_239 zr_12_18 dX12_can_164 ?_
              obtain ⟨g32, h⟩ := zg_of h
              have h := Option.some.inj h
              obtain rfl := h
              exact z_zret C0 rfl g32 dX12_can_167
            · have h := zif_f c61 h
              by_cases c62 : r4 = (6 : Int32)
              · have h := zif_t c62 h
                refine z_tabK C0 (139) 168 dX12_can_29 c62 (by decide) (by decide) (by decide) (by decide) ?_
                refine z_aload_n C0 dX12_can_168 rfl 2 rfl ?_
                refine z_geti C0 hT0.1 hT0.2.2.1 kf_12_242 zr_12_19 dX12_can_169 ?_
                obtain ⟨x39, e_x39, h⟩ := zbd_of h
                refine z_join μ 195 [] [.int x39] ?_ (fun k_J38 => ?_)
                · obtain ⟨g40, h⟩ := zg_of h
                  have h := Option.some.inj h
                  obtain rfl := h
                  exact z_zret C0 rfl g40 dX12_can_195
                · have h := e_x39
                  obtain ⟨b37, e_b37, h⟩ := zbd_of h
                  refine z_joinb b37 μ 190 194 [(3, .int r2), (2, .int r1), (0, .ref (zb g + a0)), (1, .int v1)] [] (fun z65 => ?_) (fun z65 => ?_) (fun k63 k64 => ?_)
                  · have h := zif_t z65 h
                    refine z_iconst (v := (1 : Int32)) C0 dX12_can_190 (by decide) ?_
                    refine z_goto C0 195 dX12_can_191 (by decide) ?_
                    refine z_sub (lo1 := []) [] rfl ?_
                    obtain rfl := (Option.some.inj h)
                    exact k_J38
                  · have h := zif_f (fun q => Bool.noConfusion (z65.symm.trans q)) h
                    refine z_iconst (v := (0 : Int32)) C0 dX12_can_194 (by decide) ?_
                    refine z_sub (lo1 := []) [] rfl ?_
                    obtain rfl := (Option.some.inj h)
                    exact k_J38
                  · have h := e_b37
                    refine z_if_ne C0 194 dX12_can_172 (by decide) (fun c33 => ?_) (fun c33 => ?_)
                    · have h := zif_t c33 h
                      exact k64 (Option.some.inj h).symm
                    · have h := zif_f (fun q => q c33) h
                      refine z_aload_n C0 dX12_can_175 rfl 2 rfl ?_
                      refine z_aload_n C0 dX12_can_176 rfl 2 rfl ?_
                      refine z_geti C0 hT0.1 hT0.2.2.1 kf_12_218 zr_12_12 dX12_can_177 ?_
                      refine z_aload_n C0 dX12_can_180 rfl 2 rfl ?_
                      refine z_geti C0 hT0.1 hT0.2.2.1 kf_12_221 zr_12_13 dX12_can_181 ?_
                      obtain ⟨r35, e_r35, h⟩ := zbd_of h
                      refine z_callV (As := [.int (μ a0 12), .int (μ a0 13)]) (rest := []) C0 rfl kc_X12_sidesAt km_RX12_230 (r_X12_sidesAt (l := l) (g := g) a0 (μ a0 12) (μ a0 13) μ hT0 e_r35) hT0.1 hT0.2.2.1 rfl (by decide) rfl (Nat.le_of_ble_eq_true rfl) (Nat.le_of_ble_eq_true rfl) (Nat.le_of_ble_eq_true rfl) (Nat.le_of_ble_eq_true rfl) (Nat.le_refl _) rfl rfl dX12_can_184 ?_
                      refine z_if_eq C0 194 dX12_can_187 (by decide) (fun c36 => ?_) (fun c36 => ?_)
                      · have h := zif_t c36 h
                        exact k64 (Option.some.inj h).symm
                      · have h := zif_f c36 h
                        exact k63 (Option.some.inj h).symm
              · have h := zif_f c62 h
                by_cases c66 : r4 = (7 : Int32)
                · have h := zif_t c66 h
                  refine z_tabK C0 (167) 196 dX12_can_29 c66 (by decide) (by decide) (by decide) (by decide) ?_
                  refine z_aload_n C0 dX12_can_196 rfl 2 rfl ?_
                  refine z_geti C0 hT0.1 hT0.2.2.1 kf_12_242 zr_12_19 dX12_can_197 ?_
                  obtain ⟨g41, h⟩ := zg_of h
                  have h := Option.some.inj h
                  obtain rfl := h
                  exact z_zret C0 rfl g41 dX12_can_200
                · have h := zif_f c66 h
                  by_cases c67 : r4 = (8 : Int32)
                  · have h := zif_t c67 h
                    refine z_tabK C0 (172) 201 dX12_can_29 c67 (by decide) (by decide) (by decide) (by decide) ?_
                    refine z_aload_n C0 dX12_can_201 rfl 2 rfl ?_
                    refine z_iload_n C0 dX12_can_202 rfl 1 rfl ?_
                    obtain ⟨r42, e_r42, h⟩ := zbd_of h
                    refine z_callV (As := [.int r1]) (rest := []) C0 rfl kc_X12_isPlace km_RX12_288 (r_X12_isPlace (l := l) (g := g) a0 r1 μ hT0 e_r42) hT0.1 hT0.2.2.1 rfl (by decide) rfl (Nat.le_of_ble_eq_true rfl) (Nat.le_of_ble_eq_true rfl) (Nat.le_of_ble_eq_true rfl) (Nat.le_of_ble_eq_true rfl) (Nat.le_refl _) rfl rfl dX12_can_203 ?_
                    obtain ⟨x49, e_x49, h⟩ := zbd_of h
                    refine z_join μ 223 [] [.int x49] ?_ (fun k_J48 => ?_)
                    · obtain ⟨g50, h⟩ := zg_of h
                      have h := Option.some.inj h
                      obtain rfl := h
                      exact z_zret C0 rfl g50 dX12_can_223
                    · have h := e_x49
                      obtain ⟨b47, e_b47, h⟩ := zbd_of h
                      refine z_joinb b47 μ 218 222 [(3, .int r2), (2, .int r1), (0, .ref (zb g + a0)), (1, .int v1)] [] (fun z70 => ?_) (fun z70 => ?_) (fun k68 k69 => ?_)
                      · have h := zif_t z70 h
                        refine z_iconst (v := (1 : Int32)) C0 dX12_can_218 (by decide) ?_
                        refine z_goto C0 223 dX12_can_219 (by decide) ?_
                        refine z_sub (lo1 := []) [] rfl ?_
                        obtain rfl := (Option.some.inj h)
                        exact k_J48
                      · have h := zif_f (fun q => Bool.noConfusion (z70.symm.trans q)) h
                        refine z_iconst (v := (0 : Int32)) C0 dX12_can_222 (by decide) ?_
                        refine z_sub (lo1 := []) [] rfl ?_
                        obtain rfl := (Option.some.inj h)
                        exact k_J48
                      · have h := e_b47
                        refine z_if_eq C0 222 dX12_can_206 (by decide) (fun c43 => ?_) (fun c43 => ?_)
                        · have h := zif_t c43 h
                          exact k69 (Option.some.inj h).symm
                        · have h := zif_f c43 h
                          refine z_aload_n C0 dX12_can_209 rfl 2 rfl ?_
                          refine z_getr C0 hT0 kf_12_23 zr_12_24 zx_12 (zs_12_24 hT0).1 dX12_can_210 ?_
                          refine z_iload_n C0 dX12_can_213 rfl 1 rfl ?_
                          obtain ⟨g45, h⟩ := zg_of h
                          refine z_iald C0 (zs_12_24 hT0).2 g45 rfl dX12_can_214 ?_
                          refine z_if_le C0 222 dX12_can_215 (by decide) (fun c46 => ?_) (fun c46 => ?_)
                          · have h := zif_t c46 h
                            exact k69 (Option.some.inj h).symm
                          · have h := zif_f c46 h
                            exact k68 (Option.some.inj h).symm
                  · have h := zif_f c67 h
                    refine z_join μ 224 [(3, .int r2), (2, .int r1), (0, .ref (zb g + a0)), (1, .int v1)] [] ?_ (fun k71 => ?_)
                    · refine z_iconst (v := (1 : Int32)) C0 dX12_can_224 (by decide) ?_
                      have h := Option.some.inj h
                      obtain rfl := h
                      exact z_zret C0 rfl (by decide) dX12_can_225
                    · by_cases c72 : r4 = (2 : Int32)
                      · exact z_tabK C0 (195) 224 dX12_can_29 c72 (by decide) (by decide) (by decide) (by decide) k71
                      have c51 : r4.toInt ≠ 0 := fun q => c51 (Int32.toInt_inj.mp (q.trans (by decide)))
                      have c55 : r4.toInt ≠ 1 := fun q => c55 (Int32.toInt_inj.mp (q.trans (by decide)))
                      have c59 : r4.toInt ≠ 3 := fun q => c59 (Int32.toInt_inj.mp (q.trans (by decide)))
                      have c60 : r4.toInt ≠ 4 := fun q => c60 (Int32.toInt_inj.mp (q.trans (by decide)))
                      have c61 : r4.toInt ≠ 5 := fun q => c61 (Int32.toInt_inj.mp (q.trans (by decide)))
                      have c62 : r4.toInt ≠ 6 := fun q => c62 (Int32.toInt_inj.mp (q.trans (by decide)))
                      have c66 : r4.toInt ≠ 7 := fun q => c66 (Int32.toInt_inj.mp (q.trans (by decide)))
                      have c67 : r4.toInt ≠ 8 := fun q => c67 (Int32.toInt_inj.mp (q.trans (by decide)))
                      have c72 : r4.toInt ≠ 2 := fun q => c72 (Int32.toInt_inj.mp (q.trans (by decide)))
                      exact z_tabOut C0 224 dX12_can_29 (by omega) (by decide) k71
  · have h := zif_f c3 h
    refine z_iconst (v := (0 : Int32)) C0 dX12_can_21 (by decide) ?_
    have h := Option.some.inj h
    obtain rfl := h
    exact z_zret C0 rfl (by decide) dX12_can_22
def f_X12_canLie_L47 (a0 : Nat) (v1 : Int32) (v2 : Int32) (μ19 : zM) : Nat → Int32 → Int32 → Option (Int32)
  | 0, _, _ => none
  | n + 1, y17, y18 =>
    zbd (f_X12_of a0 (11 : Int32) μ19) fun r20 =>
    if r20 ≤ y18 then
      some y17
    else
      zbd (zbd (if y17 = 0 then
            some false
          else
            zbd (f_X12_of a0 ((16 : Int32) + ((2 : Int32) * y18)) μ19) fun r36 =>
            zbd (f_X12_of a0 (2 : Int32) μ19) fun r37 =>
            if (f_X12_isIn r36 v1 ((v1 + r37) - (1 : Int32))) = 0 then
              some true
            else
              zbd (f_X12_of a0 (((16 : Int32) + ((2 : Int32) * y18)) + (1 : Int32)) μ19) fun r41 =>
              zbd (f_X12_of a0 (3 : Int32) μ19) fun r42 =>
              if ¬ (f_X12_isIn r41 v2 ((v2 + r42) - (1 : Int32))) = 0 then
                some false
              else
                some true) fun b44 =>
        if b44 = true then
          some (1 : Int32)
        else
          some (0 : Int32)) fun x46 =>
      zl (y18 + (1 : Int32)) fun x47 =>
      f_X12_canLie_L47 a0 v1 v2 μ19 n x46 x47
def f_X12_canLie (a0 : Nat) (v1 : Int32) (v2 : Int32) (μ : zM) : Option (Int32) :=
  zbd (zbd (if v1 < 0 then
        some false
      else
        if v2 < 0 then
          some false
        else
          zbd (f_X12_of a0 (2 : Int32) μ) fun r5 =>
          zbd (f_X12_of a0 (0 : Int32) μ) fun r6 =>
          if r6 < (v1 + r5) then
            some false
          else
            zbd (f_X12_of a0 (3 : Int32) μ) fun r10 =>
            zbd (f_X12_of a0 (1 : Int32) μ) fun r11 =>
            if r11 < (v2 + r10) then
              some false
            else
              some true) fun b13 =>
    if b13 = true then
      some (1 : Int32)
    else
      some (0 : Int32)) fun x15 =>
  zbd (f_X12_canLie_L47 a0 v1 v2 μ zFU x15 (0 : Int32)) fun x48 =>
  zg (z01 x48) <|
  some x48
set_option maxHeartbeats 4000000 in
set_option maxRecDepth 100000 in
theorem r_X12_canLie_L47 {l : Launch} {g : zL} {p : Program} {e : Env} {s : State} {m : MethodId} {args : Array Value} {below : List Frame} {meth : Method} {c : Code} {Q : State → Prop} (C0 : zC p s m args meth c g cX12_canLie yX12_canLie 5 (some (.boolean))) (a0 : Nat) (v1 : Int32) (v2 : Int32) (μ19 : zM) (hU16 : zT zNN zσ1 a0 12) : ∀ (n : Nat) (y17 : Int32) (y18 : Int32) (x48 : Int32), f_X12_canLie_L47 a0 v1 v2 μ19 n y17 y18 = some x48 → Z p l e (zrm 1 0 0) s m args below meth c g Q 5 zNN 0 0 zσ1 μ19 130 [(3, .int x48)] [] → Z p l e (zrm 1 0 0) s m args below meth c g Q 5 zNN 0 0 zσ1 μ19 47 [(0, .ref (zb g + a0)), (1, .int v1), (2, .int v2), (3, .int y17), (4, .int y18)] [] := by
  intro n
  induction n with
  | zero =>
    intro y17 y18 x48 h kx
    rw [f_X12_canLie_L47] at h
    cases h
  | succ n ih =>
    intro y17 y18 x48 h kx
    rw [f_X12_canLie_L47] at h
    refine z_iload C0 dX12_canLie_47 4 rfl ?_
    refine z_aload_n C0 dX12_canLie_49 rfl 0 rfl ?_
    refine z_bipush (v := (11 : Int32)) C0 dX12_canLie_50 (by decide) ?_
    obtain ⟨r20, e_r20, h⟩ := zbd_of h
    refine z_callV (As := [.int (11 : Int32)]) (rest := [.int y18]) C0 rfl kc_X12_of km_RX12_180 (r_X12_of (l := l) (g := g) a0 (11 : Int32) μ19 hU16 e_r20) hU16.1 hU16.2.2.1 rfl (by decide) rfl (Nat.le_of_ble_eq_true rfl) (Nat.le_of_ble_eq_true rfl) (Nat.le_of_ble_eq_true rfl) (Nat.le_of_ble_eq_true rfl) (Nat.le_refl _) rfl rfl dX12_canLie_52 ?_
    refine z_icmp_ge C0 130 dX12_canLie_55 (by decide) (fun c21 => ?_) (fun c21 => ?_)
    · have h := zif_t c21 h
      refine z_sub (lo1 := [(3, .int y17)]) [3] rfl ?_
      obtain rfl := (Option.some.inj h)
      exact kx
    · have h := zif_f c21 h
      refine z_iload_n C0 dX12_canLie_58 rfl 3 rfl ?_
      obtain ⟨x46, e_x46, h⟩ := zbd_of h
      refine z_join μ19 123 [(0, .ref (zb g + a0)), (1, .int v1), (2, .int v2), (4, .int y18)] [.int x46] ?_ (fun k_J45 => ?_)
      · refine z_istore_n (lo1 := [(3, .int x46), (0, .ref (zb g + a0)), (1, .int v1), (2, .int v2), (4, .int y18)]) C0 dX12_canLie_123 rfl (by decide) rfl ?_
        obtain ⟨x47, e_x47, h⟩ := zl_of h
        refine z_iinc (lo1 := [(4, .int x47), (3, .int x46), (0, .ref (zb g + a0)), (1, .int v1), (2, .int v2)]) C0 dX12_canLie_124 4 rfl (by decide) e_x47.symm (by decide) rfl ?_
        refine z_goto C0 47 dX12_canLie_127 (by decide) ?_
        refine z_sub (lo1 := [(0, .ref (zb g + a0)), (1, .int v1), (2, .int v2), (3, .int x46), (4, .int x47)]) [2, 3, 4, 1, 0] rfl ?_
        exact ih _ _ _ h kx
      · have h := e_x46
        obtain ⟨b44, e_b44, h⟩ := zbd_of h
        refine z_joinb b44 μ19 118 122 [(0, .ref (zb g + a0)), (1, .int v1), (2, .int v2), (3, .int y17), (4, .int y18)] [] (fun z52 => ?_) (fun z52 => ?_) (fun k50 k51 => ?_)
        · have h := zif_t z52 h
          refine z_iconst (v := (1 : Int32)) C0 dX12_canLie_118 (by decide) ?_
          refine z_goto C0 123 dX12_canLie_119 (by decide) ?_
          refine z_sub (lo1 := [(0, .ref (zb g + a0)), (1, .int v1), (2, .int v2), (4, .int y18)]) [0, 1, 2, 4] rfl ?_
          obtain rfl := (Option.some.inj h)
          exact k_J45
        · have h := zif_f (fun q => Bool.noConfusion (z52.symm.trans q)) h
          refine z_iconst (v := (0 : Int32)) C0 dX12_canLie_122 (by decide) ?_
          refine z_sub (lo1 := [(0, .ref (zb g + a0)), (1, .int v1), (2, .int v2), (4, .int y18)]) [0, 1, 2, 4] rfl ?_
          obtain rfl := (Option.some.inj h)
          exact k_J45
        · have h := e_b44
          refine z_if_eq C0 122 dX12_canLie_59 (by decide) (fun c33 => ?_) (fun c33 => ?_)
          · have h := zif_t c33 h
            exact k51 (Option.some.inj h).symm
          · have h := zif_f c33 h
            refine z_aload_n C0 dX12_canLie_62 rfl 0 rfl ?_
            refine z_bipush (v := (16 : Int32)) C0 dX12_canLie_63 (by decide) ?_
            refine z_iconst (v := (2 : Int32)) C0 dX12_canLie_65 (by decide) ?_
            refine z_iload C0 dX12_canLie_66 4 rfl ?_
            refine z_imul C0 dX12_canLie_68 ?_
            refine z_iadd C0 dX12_canLie_69 ?_
            obtain ⟨r36, e_r36, h⟩ := zbd_of h
            refine z_callV (As := [.int ((16 : Int32) + ((2 : Int32) * y18))]) (rest := []) C0 rfl kc_X12_of km_RX12_180 (r_X12_of (l := l) (g := g) a0 ((16 : Int32) + ((2 : Int32) * y18)) μ19 hU16 e_r36) hU16.1 hU16.2.2.1 rfl (by decide) rfl (Nat.le_of_ble_eq_true rfl) (Nat.le_of_ble_eq_true rfl) (Nat.le_of_ble_eq_true rfl) (Nat.le_of_ble_eq_true rfl) (Nat.le_refl _) rfl rfl dX12_canLie_70 ?_
            refine z_iload_n C0 dX12_canLie_73 rfl 1 rfl ?_
            refine z_iload_n C0 dX12_canLie_74 rfl 1 rfl ?_
            refine z_aload_n C0 dX12_canLie_75 rfl 0 rfl ?_
            refine z_iconst (v := (2 : Int32)) C0 dX12_canLie_76 (by decide) ?_
            obtain ⟨r37, e_r37, h⟩ := zbd_of h
            refine z_callV (As := [.int (2 : Int32)]) (rest := [.int v1, .int v1, .int r36]) C0 rfl kc_X12_of km_RX12_180 (r_X12_of (l := l) (g := g) a0 (2 : Int32) μ19 hU16 e_r37) hU16.1 hU16.2.2.1 rfl (by decide) rfl (Nat.le_of_ble_eq_true rfl) (Nat.le_of_ble_eq_true rfl) (Nat.le_of_ble_eq_true rfl) (Nat.le_of_ble_eq_true rfl) (Nat.le_refl _) rfl rfl dX12_canLie_77 ?_
            refine z_iadd C0 dX12_canLie_80 ?_
            refine z_iconst (v := (1 : Int32)) C0 dX12_canLie_81 (by decide) ?_
            refine z_isub C0 dX12_canLie_82 ?_
            refine z_callS (As := [.int r36, .int v1, .int ((v1 + r37) - (1 : Int32))]) (rest := []) C0 rfl kc_X12_isIn km_RX12_109 (r_X12_isIn (l := l) (g := g) (μ := μ19) r36 v1 ((v1 + r37) - (1 : Int32)) rfl) rfl (Nat.le_of_ble_eq_true rfl) (Nat.le_of_ble_eq_true rfl) (Nat.le_of_ble_eq_true rfl) (Nat.le_of_ble_eq_true rfl) (Nat.le_refl _) rfl rfl dX12_canLie_83 ?_
            refine z_if_eq C0 118 dX12_canLie_86 (by decide) (fun c38 => ?_) (fun c38 => ?_)
            · have h := zif_t c38 h
              exact k50 (Option.some.inj h).symm
            · have h := zif_f c38 h
              refine z_aload_n C0 dX12_canLie_89 rfl 0 rfl ?_
              refine z_bipush (v := (16 : Int32)) C0 dX12_canLie_90 (by decide) ?_
              refine z_iconst (v := (2 : Int32)) C0 dX12_canLie_92 (by decide) ?_
              refine z_iload C0 dX12_canLie_93 4 rfl ?_
              refine z_imul C0 dX12_canLie_95 ?_
              refine z_iadd C0 dX12_canLie_96 ?_
              refine z_iconst (v := (1 : Int32)) C0 dX12_canLie_97 (by decide) ?_
              refine z_iadd C0 dX12_canLie_98 ?_
              obtain ⟨r41, e_r41, h⟩ := zbd_of h
              refine z_callV (As := [.int (((16 : Int32) + ((2 : Int32) * y18)) + (1 : Int32))]) (rest := []) C0 rfl kc_X12_of km_RX12_180 (r_X12_of (l := l) (g := g) a0 (((16 : Int32) + ((2 : Int32) * y18)) + (1 : Int32)) μ19 hU16 e_r41) hU16.1 hU16.2.2.1 rfl (by decide) rfl (Nat.le_of_ble_eq_true rfl) (Nat.le_of_ble_eq_true rfl) (Nat.le_of_ble_eq_true rfl) (Nat.le_of_ble_eq_true rfl) (Nat.le_refl _) rfl rfl dX12_canLie_99 ?_
              refine z_iload_n C0 dX12_canLie_102 rfl 2 rfl ?_
              refine z_iload_n C0 dX12_canLie_103 rfl 2 rfl ?_
              refine z_aload_n C0 dX12_canLie_104 rfl 0 rfl ?_
              refine z_iconst (v := (3 : Int32)) C0 dX12_canLie_105 (by decide) ?_
              obtain ⟨r42, e_r42, h⟩ := zbd_of h
              refine z_callV (As := [.int (3 : Int32)]) (rest := [.int v2, .int v2, .int r41]) C0 rfl kc_X12_of km_RX12_180 (r_X12_of (l := l) (g := g) a0 (3 : Int32) μ19 hU16 e_r42) hU16.1 hU16.2.2.1 rfl (by decide) rfl (Nat.le_of_ble_eq_true rfl) (Nat.le_of_ble_eq_true rfl) (Nat.le_of_ble_eq_true rfl) (Nat.le_of_ble_eq_true rfl) (Nat.le_refl _) rfl rfl dX12_canLie_106 ?_
              refine z_iadd C0 dX12_canLie_109 ?_
              refine z_iconst (v := (1 : Int32)) C0 dX12_canLie_110 (by decide) ?_
              refine z_isub C0 dX12_canLie_111 ?_
              refine z_callS (As := [.int r41, .int v2, .int ((v2 + r42) - (1 : Int32))]) (rest := []) C0 rfl kc_X12_isIn km_RX12_109 (r_X12_isIn (l := l) (g := g) (μ := μ19) r41 v2 ((v2 + r42) - (1 : Int32)) rfl) rfl (Nat.le_of_ble_eq_true rfl) (Nat.le_of_ble_eq_true rfl) (Nat.le_of_ble_eq_true rfl) (Nat.le_of_ble_eq_true rfl) (Nat.le_refl _) rfl rfl dX12_canLie_112 ?_
              refine z_if_ne C0 122 dX12_canLie_115 (by decide) (fun c43 => ?_) (fun c43 => ?_)
              · have h := zif_t c43 h
                exact k51 (Option.some.inj h).symm
              · have h := zif_f (fun q => q c43) h
                exact k50 (Option.some.inj h).symm
set_option maxHeartbeats 4000000 in
set_option maxRecDepth 100000 in
theorem r_X12_canLie {l : Launch} {g : zL} (a0 : Nat) (v1 : Int32) (v2 : Int32) (μ : zM) (hT0 : zT zNN zσ1 a0 12) {rv : Int32} (h : f_X12_canLie a0 v1 v2 μ = some rv) : zMet l g yX12_canLie cX12_canLie 5 (some (.boolean)) 1 0 0 zNN zNN zσ1 zσ1 [.ref (zb g + a0), .int v1, .int v2] μ (some (.int rv)) μ := by
  refine zMet.of (by decide +kernel) (Nat.le_of_ble_eq_true rfl) ?_
  intro p e s m args below meth c C0
  refine z_loc (lo1 := [(0, .ref (zb g + a0)), (1, .int v1), (2, .int v2)]) rfl ?_
  unfold f_X12_canLie at h
  refine z_iload_n C0 dX12_canLie_0 rfl 1 rfl ?_
  obtain ⟨x15, e_x15, h⟩ := zbd_of h
  refine z_join μ 43 [(0, .ref (zb g + a0)), (1, .int v1), (2, .int v2)] [.int x15] ?_ (fun k_J14 => ?_)
  · refine z_istore_n (lo1 := [(3, .int x15), (0, .ref (zb g + a0)), (1, .int v1), (2, .int v2)]) C0 dX12_canLie_43 rfl (by decide) rfl ?_
    refine z_iconst (v := (0 : Int32)) C0 dX12_canLie_44 (by decide) ?_
    refine z_istore (lo1 := [(4, .int (0 : Int32)), (3, .int x15), (0, .ref (zb g + a0)), (1, .int v1), (2, .int v2)]) C0 dX12_canLie_45 (by decide) rfl ?_
    refine z_sub (lo1 := [(0, .ref (zb g + a0)), (1, .int v1), (2, .int v2), (3, .int x15), (4, .int (0 : Int32))]) [2, 3, 4, 1, 0] rfl ?_
    obtain ⟨x48, e_x48, h⟩ := zbd_of h
    refine r_X12_canLie_L47 C0 a0 v1 v2 μ hT0 zFU x15 (0 : Int32) x48 e_x48 ?_
    refine z_iload_n C0 dX12_canLie_130 rfl 0 rfl ?_
    obtain ⟨g49, h⟩ := zg_of h
    have h := Option.some.inj h
    obtain rfl := h
    exact z_zret C0 rfl g49 dX12_canLie_131
  · have h := e_x15
    obtain ⟨b13, e_b13, h⟩ := zbd_of h
    refine z_joinb b13 μ 38 42 [(0, .ref (zb g + a0)), (1, .int v1), (2, .int v2)] [] (fun z55 => ?_) (fun z55 => ?_) (fun k53 k54 => ?_)
    · have h := zif_t z55 h
      refine z_iconst (v := (1 : Int32)) C0 dX12_canLie_38 (by decide) ?_
      refine z_goto C0 43 dX12_canLie_39 (by decide) ?_
      obtain rfl := (Option.some.inj h)
      exact k_J14
    · have h := zif_f (fun q => Bool.noConfusion (z55.symm.trans q)) h
      refine z_iconst (v := (0 : Int32)) C0 dX12_canLie_42 (by decide) ?_
      obtain rfl := (Option.some.inj h)
      exact k_J14
    · have h := e_b13
      refine z_if_lt C0 42 dX12_canLie_1 (by decide) (fun c1 => ?_) (fun c1 => ?_)
      · have h := zif_t c1 h
        exact k54 (Option.some.inj h).symm
      · have h := zif_f c1 h
        refine z_iload_n C0 dX12_canLie_4 rfl 2 rfl ?_
        refine z_if_lt C0 42 dX12_canLie_5 (by decide) (fun c2 => ?_) (fun c2 => ?_)
        · have h := zif_t c2 h
          exact k54 (Option.some.inj h).symm
        · have h := zif_f c2 h
          refine z_iload_n C0 dX12_canLie_8 rfl 1 rfl ?_
          refine z_aload_n C0 dX12_canLie_9 rfl 0 rfl ?_
          refine z_iconst (v := (2 : Int32)) C0 dX12_canLie_10 (by decide) ?_
          obtain ⟨r5, e_r5, h⟩ := zbd_of h
          refine z_callV (As := [.int (2 : Int32)]) (rest := [.int v1]) C0 rfl kc_X12_of km_RX12_180 (r_X12_of (l := l) (g := g) a0 (2 : Int32) μ hT0 e_r5) hT0.1 hT0.2.2.1 rfl (by decide) rfl (Nat.le_of_ble_eq_true rfl) (Nat.le_of_ble_eq_true rfl) (Nat.le_of_ble_eq_true rfl) (Nat.le_of_ble_eq_true rfl) (Nat.le_refl _) rfl rfl dX12_canLie_11 ?_
          refine z_iadd C0 dX12_canLie_14 ?_
          refine z_aload_n C0 dX12_canLie_15 rfl 0 rfl ?_
          refine z_iconst (v := (0 : Int32)) C0 dX12_canLie_16 (by decide) ?_
          obtain ⟨r6, e_r6, h⟩ := zbd_of h
          refine z_callV (As := [.int (0 : Int32)]) (rest := [.int (v1 + r5)]) C0 rfl kc_X12_of km_RX12_180 (r_X12_of (l := l) (g := g) a0 (0 : Int32) μ hT0 e_r6) hT0.1 hT0.2.2.1 rfl (by decide) rfl (Nat.le_of_ble_eq_true rfl) (Nat.le_of_ble_eq_true rfl) (Nat.le_of_ble_eq_true rfl) (Nat.le_of_ble_eq_true rfl) (Nat.le_refl _) rfl rfl dX12_canLie_17 ?_
          refine z_icmp_gt C0 42 dX12_canLie_20 (by decide) (fun c7 => ?_) (fun c7 => ?_)
          · have h := zif_t c7 h
            exact k54 (Option.some.inj h).symm
          · have h := zif_f c7 h
            refine z_iload_n C0 dX12_canLie_23 rfl 2 rfl ?_
            refine z_aload_n C0 dX12_canLie_24 rfl 0 rfl ?_
            refine z_iconst (v := (3 : Int32)) C0 dX12_canLie_25 (by decide) ?_
            obtain ⟨r10, e_r10, h⟩ := zbd_of h
            refine z_callV (As := [.int (3 : Int32)]) (rest := [.int v2]) C0 rfl kc_X12_of km_RX12_180 (r_X12_of (l := l) (g := g) a0 (3 : Int32) μ hT0 e_r10) hT0.1 hT0.2.2.1 rfl (by decide) rfl (Nat.le_of_ble_eq_true rfl) (Nat.le_of_ble_eq_true rfl) (Nat.le_of_ble_eq_true rfl) (Nat.le_of_ble_eq_true rfl) (Nat.le_refl _) rfl rfl dX12_canLie_26 ?_
            refine z_iadd C0 dX12_canLie_29 ?_
            refine z_aload_n C0 dX12_canLie_30 rfl 0 rfl ?_
            refine z_iconst (v := (1 : Int32)) C0 dX12_canLie_31 (by decide) ?_
            obtain ⟨r11, e_r11, h⟩ := zbd_of h
            refine z_callV (As := [.int (1 : Int32)]) (rest := [.int (v2 + r10)]) C0 rfl kc_X12_of km_RX12_180 (r_X12_of (l := l) (g := g) a0 (1 : Int32) μ hT0 e_r11) hT0.1 hT0.2.2.1 rfl (by decide) rfl (Nat.le_of_ble_eq_true rfl) (Nat.le_of_ble_eq_true rfl) (Nat.le_of_ble_eq_true rfl) (Nat.le_of_ble_eq_true rfl) (Nat.le_refl _) rfl rfl dX12_canLie_32 ?_
            refine z_icmp_gt C0 42 dX12_canLie_35 (by decide) (fun c12 => ?_) (fun c12 => ?_)
            · have h := zif_t c12 h
              exact k54 (Option.some.inj h).symm
            · have h := zif_f c12 h
              exact k53 (Option.some.inj h).symm
def f_X12_canLieOther_L41 (a0 : Nat) (v1 : Int32) (v2 : Int32) (v3 : Int32) (v4 : Int32) (μ15 : zM) : Nat → Int32 → Int32 → Option (Int32)
  | 0, _, _ => none
  | n + 1, y13, y14 =>
    zbd (f_X12_of a0 (11 : Int32) μ15) fun r16 =>
    if r16 ≤ y14 then
      some y13
    else
      zbd (zbd (if y13 = 0 then
            some false
          else
            zbd (f_X12_of a0 ((16 : Int32) + ((2 : Int32) * y14)) μ15) fun r27 =>
            if (f_X12_isIn r27 v1 ((v1 + v3) - (1 : Int32))) = 0 then
              some true
            else
              zbd (f_X12_of a0 (((16 : Int32) + ((2 : Int32) * y14)) + (1 : Int32)) μ15) fun r30 =>
              if ¬ (f_X12_isIn r30 v2 ((v2 + v4) - (1 : Int32))) = 0 then
                some false
              else
                some true) fun b32 =>
        if b32 = true then
          some (1 : Int32)
        else
          some (0 : Int32)) fun x34 =>
      zl (y14 + (1 : Int32)) fun x35 =>
      f_X12_canLieOther_L41 a0 v1 v2 v3 v4 μ15 n x34 x35
def f_X12_canLieOther (a0 : Nat) (v1 : Int32) (v2 : Int32) (v3 : Int32) (v4 : Int32) (μ : zM) : Option (Int32) :=
  zbd (zbd (if v1 < 0 then
        some false
      else
        if v2 < 0 then
          some false
        else
          zbd (f_X12_of a0 (0 : Int32) μ) fun r4 =>
          if r4 < (v1 + v3) then
            some false
          else
            zbd (f_X12_of a0 (1 : Int32) μ) fun r7 =>
            if r7 < (v2 + v4) then
              some false
            else
              some true) fun b9 =>
    if b9 = true then
      some (1 : Int32)
    else
      some (0 : Int32)) fun x11 =>
  zbd (f_X12_canLieOther_L41 a0 v1 v2 v3 v4 μ zFU x11 (0 : Int32)) fun x36 =>
  zg (z01 x36) <|
  some x36
set_option maxHeartbeats 4000000 in
set_option maxRecDepth 100000 in
theorem r_X12_canLieOther_L41 {l : Launch} {g : zL} {p : Program} {e : Env} {s : State} {m : MethodId} {args : Array Value} {below : List Frame} {meth : Method} {c : Code} {Q : State → Prop} (C0 : zC p s m args meth c g cX12_canLieOther yX12_canLieOther 7 (some (.boolean))) (a0 : Nat) (v1 : Int32) (v2 : Int32) (v3 : Int32) (v4 : Int32) (μ15 : zM) (hU12 : zT zNN zσ1 a0 12) : ∀ (n : Nat) (y13 : Int32) (y14 : Int32) (x36 : Int32), f_X12_canLieOther_L41 a0 v1 v2 v3 v4 μ15 n y13 y14 = some x36 → Z p l e (zrm 1 0 0) s m args below meth c g Q 7 zNN 0 0 zσ1 μ15 119 [(5, .int x36)] [] → Z p l e (zrm 1 0 0) s m args below meth c g Q 7 zNN 0 0 zσ1 μ15 41 [(0, .ref (zb g + a0)), (1, .int v1), (2, .int v2), (3, .int v3), (4, .int v4), (5, .int y13), (6, .int y14)] [] := by
  intro n
  induction n with
  | zero =>
    intro y13 y14 x36 h kx
    rw [f_X12_canLieOther_L41] at h
    cases h
  | succ n ih =>
    intro y13 y14 x36 h kx
    rw [f_X12_canLieOther_L41] at h
    refine z_iload C0 dX12_canLieOther_41 6 rfl ?_
    refine z_aload_n C0 dX12_canLieOther_43 rfl 0 rfl ?_
    refine z_bipush (v := (11 : Int32)) C0 dX12_canLieOther_44 (by decide) ?_
    obtain ⟨r16, e_r16, h⟩ := zbd_of h
    refine z_callV (As := [.int (11 : Int32)]) (rest := [.int y14]) C0 rfl kc_X12_of km_RX12_180 (r_X12_of (l := l) (g := g) a0 (11 : Int32) μ15 hU12 e_r16) hU12.1 hU12.2.2.1 rfl (by decide) rfl (Nat.le_of_ble_eq_true rfl) (Nat.le_of_ble_eq_true rfl) (Nat.le_of_ble_eq_true rfl) (Nat.le_of_ble_eq_true rfl) (Nat.le_refl _) rfl rfl dX12_canLieOther_46 ?_
    refine z_icmp_ge C0 119 dX12_canLieOther_49 (by decide) (fun c17 => ?_) (fun c17 => ?_)
    · have h := zif_t c17 h
      refine z_sub (lo1 := [(5, .int y13)]) [5] rfl ?_
      obtain rfl := (Option.some.inj h)
      exact kx
    · have h := zif_f c17 h
      refine z_iload C0 dX12_canLieOther_52 5 rfl ?_
      obtain ⟨x34, e_x34, h⟩ := zbd_of h
      refine z_join μ15 111 [(0, .ref (zb g + a0)), (1, .int v1), (2, .int v2), (3, .int v3), (4, .int v4), (6, .int y14)] [.int x34] ?_ (fun k_J33 => ?_)
      · refine z_istore (lo1 := [(5, .int x34), (0, .ref (zb g + a0)), (1, .int v1), (2, .int v2), (3, .int v3), (4, .int v4), (6, .int y14)]) C0 dX12_canLieOther_111 (by decide) rfl ?_
        obtain ⟨x35, e_x35, h⟩ := zl_of h
        refine z_iinc (lo1 := [(6, .int x35), (5, .int x34), (0, .ref (zb g + a0)), (1, .int v1), (2, .int v2), (3, .int v3), (4, .int v4)]) C0 dX12_canLieOther_113 6 rfl (by decide) e_x35.symm (by decide) rfl ?_
        refine z_goto C0 41 dX12_canLieOther_116 (by decide) ?_
        refine z_sub (lo1 := [(0, .ref (zb g + a0)), (1, .int v1), (2, .int v2), (3, .int v3), (4, .int v4), (5, .int x34), (6, .int x35)]) [2, 3, 4, 5, 6, 1, 0] rfl ?_
        exact ih _ _ _ h kx
      · have h := e_x34
        obtain ⟨b32, e_b32, h⟩ := zbd_of h
        refine z_joinb b32 μ15 106 110 [(0, .ref (zb g + a0)), (1, .int v1), (2, .int v2), (3, .int v3), (4, .int v4), (5, .int y13), (6, .int y14)] [] (fun z40 => ?_) (fun z40 => ?_) (fun k38 k39 => ?_)
        · have h := zif_t z40 h
          refine z_iconst (v := (1 : Int32)) C0 dX12_canLieOther_106 (by decide) ?_
          refine z_goto C0 111 dX12_canLieOther_107 (by decide) ?_
          refine z_sub (lo1 := [(0, .ref (zb g + a0)), (1, .int v1), (2, .int v2), (3, .int v3), (4, .int v4), (6, .int y14)]) [0, 1, 2, 3, 4, 6] rfl ?_
          obtain rfl := (Option.some.inj h)
          exact k_J33
        · have h := zif_f (fun q => Bool.noConfusion (z40.symm.trans q)) h
          refine z_iconst (v := (0 : Int32)) C0 dX12_canLieOther_110 (by decide) ?_
          refine z_sub (lo1 := [(0, .ref (zb g + a0)), (1, .int v1), (2, .int v2), (3, .int v3), (4, .int v4), (6, .int y14)]) [0, 1, 2, 3, 4, 6] rfl ?_
          obtain rfl := (Option.some.inj h)
          exact k_J33
        · have h := e_b32
          refine z_if_eq C0 110 dX12_canLieOther_54 (by decide) (fun c25 => ?_) (fun c25 => ?_)
          · have h := zif_t c25 h
            exact k39 (Option.some.inj h).symm
          · have h := zif_f c25 h
            refine z_aload_n C0 dX12_canLieOther_57 rfl 0 rfl ?_
            refine z_bipush (v := (16 : Int32)) C0 dX12_canLieOther_58 (by decide) ?_
            refine z_iconst (v := (2 : Int32)) C0 dX12_canLieOther_60 (by decide) ?_
            refine z_iload C0 dX12_canLieOther_61 6 rfl ?_
            refine z_imul C0 dX12_canLieOther_63 ?_
            refine z_iadd C0 dX12_canLieOther_64 ?_
            obtain ⟨r27, e_r27, h⟩ := zbd_of h
            refine z_callV (As := [.int ((16 : Int32) + ((2 : Int32) * y14))]) (rest := []) C0 rfl kc_X12_of km_RX12_180 (r_X12_of (l := l) (g := g) a0 ((16 : Int32) + ((2 : Int32) * y14)) μ15 hU12 e_r27) hU12.1 hU12.2.2.1 rfl (by decide) rfl (Nat.le_of_ble_eq_true rfl) (Nat.le_of_ble_eq_true rfl) (Nat.le_of_ble_eq_true rfl) (Nat.le_of_ble_eq_true rfl) (Nat.le_refl _) rfl rfl dX12_canLieOther_65 ?_
            refine z_iload_n C0 dX12_canLieOther_68 rfl 1 rfl ?_
            refine z_iload_n C0 dX12_canLieOther_69 rfl 1 rfl ?_
            refine z_iload_n C0 dX12_canLieOther_70 rfl 3 rfl ?_
            refine z_iadd C0 dX12_canLieOther_71 ?_
            refine z_iconst (v := (1 : Int32)) C0 dX12_canLieOther_72 (by decide) ?_
            refine z_isub C0 dX12_canLieOther_73 ?_
            refine z_callS (As := [.int r27, .int v1, .int ((v1 + v3) - (1 : Int32))]) (rest := []) C0 rfl kc_X12_isIn km_RX12_109 (r_X12_isIn (l := l) (g := g) (μ := μ15) r27 v1 ((v1 + v3) - (1 : Int32)) rfl) rfl (Nat.le_of_ble_eq_true rfl) (Nat.le_of_ble_eq_true rfl) (Nat.le_of_ble_eq_true rfl) (Nat.le_of_ble_eq_true rfl) (Nat.le_refl _) rfl rfl dX12_canLieOther_74 ?_
            refine z_if_eq C0 106 dX12_canLieOther_77 (by decide) (fun c28 => ?_) (fun c28 => ?_)
            · have h := zif_t c28 h
              exact k38 (Option.some.inj h).symm
            · have h := zif_f c28 h
              refine z_aload_n C0 dX12_canLieOther_80 rfl 0 rfl ?_
              refine z_bipush (v := (16 : Int32)) C0 dX12_canLieOther_81 (by decide) ?_
              refine z_iconst (v := (2 : Int32)) C0 dX12_canLieOther_83 (by decide) ?_
              refine z_iload C0 dX12_canLieOther_84 6 rfl ?_
              refine z_imul C0 dX12_canLieOther_86 ?_
              refine z_iadd C0 dX12_canLieOther_87 ?_
              refine z_iconst (v := (1 : Int32)) C0 dX12_canLieOther_88 (by decide) ?_
              refine z_iadd C0 dX12_canLieOther_89 ?_
              obtain ⟨r30, e_r30, h⟩ := zbd_of h
              refine z_callV (As := [.int (((16 : Int32) + ((2 : Int32) * y14)) + (1 : Int32))]) (rest := []) C0 rfl kc_X12_of km_RX12_180 (r_X12_of (l := l) (g := g) a0 (((16 : Int32) + ((2 : Int32) * y14)) + (1 : Int32)) μ15 hU12 e_r30) hU12.1 hU12.2.2.1 rfl (by decide) rfl (Nat.le_of_ble_eq_true rfl) (Nat.le_of_ble_eq_true rfl) (Nat.le_of_ble_eq_true rfl) (Nat.le_of_ble_eq_true rfl) (Nat.le_refl _) rfl rfl dX12_canLieOther_90 ?_
              refine z_iload_n C0 dX12_canLieOther_93 rfl 2 rfl ?_
              refine z_iload_n C0 dX12_canLieOther_94 rfl 2 rfl ?_
              refine z_iload C0 dX12_canLieOther_95 4 rfl ?_
              refine z_iadd C0 dX12_canLieOther_97 ?_
              refine z_iconst (v := (1 : Int32)) C0 dX12_canLieOther_98 (by decide) ?_
              refine z_isub C0 dX12_canLieOther_99 ?_
              refine z_callS (As := [.int r30, .int v2, .int ((v2 + v4) - (1 : Int32))]) (rest := []) C0 rfl kc_X12_isIn km_RX12_109 (r_X12_isIn (l := l) (g := g) (μ := μ15) r30 v2 ((v2 + v4) - (1 : Int32)) rfl) rfl (Nat.le_of_ble_eq_true rfl) (Nat.le_of_ble_eq_true rfl) (Nat.le_of_ble_eq_true rfl) (Nat.le_of_ble_eq_true rfl) (Nat.le_refl _) rfl rfl dX12_canLieOther_100 ?_
              refine z_if_ne C0 110 dX12_canLieOther_103 (by decide) (fun c31 => ?_) (fun c31 => ?_)
              · have h := zif_t c31 h
                exact k39 (Option.some.inj h).symm
              · have h := zif_f (fun q => q c31) h
                exact k38 (Option.some.inj h).symm
set_option maxHeartbeats 4000000 in
set_option maxRecDepth 100000 in
theorem r_X12_canLieOther {l : Launch} {g : zL} (a0 : Nat) (v1 : Int32) (v2 : Int32) (v3 : Int32) (v4 : Int32) (μ : zM) (hT0 : zT zNN zσ1 a0 12) {rv : Int32} (h : f_X12_canLieOther a0 v1 v2 v3 v4 μ = some rv) : zMet l g yX12_canLieOther cX12_canLieOther 7 (some (.boolean)) 1 0 0 zNN zNN zσ1 zσ1 [.ref (zb g + a0), .int v1, .int v2, .int v3, .int v4] μ (some (.int rv)) μ := by
  refine zMet.of (by decide +kernel) (Nat.le_of_ble_eq_true rfl) ?_
  intro p e s m args below meth c C0
  refine z_loc (lo1 := [(0, .ref (zb g + a0)), (1, .int v1), (2, .int v2), (3, .int v3), (4, .int v4)]) rfl ?_
  unfold f_X12_canLieOther at h
  refine z_iload_n C0 dX12_canLieOther_0 rfl 1 rfl ?_
  obtain ⟨x11, e_x11, h⟩ := zbd_of h
  refine z_join μ 36 [(0, .ref (zb g + a0)), (1, .int v1), (2, .int v2), (3, .int v3), (4, .int v4)] [.int x11] ?_ (fun k_J10 => ?_)
  · refine z_istore (lo1 := [(5, .int x11), (0, .ref (zb g + a0)), (1, .int v1), (2, .int v2), (3, .int v3), (4, .int v4)]) C0 dX12_canLieOther_36 (by decide) rfl ?_
    refine z_iconst (v := (0 : Int32)) C0 dX12_canLieOther_38 (by decide) ?_
    refine z_istore (lo1 := [(6, .int (0 : Int32)), (5, .int x11), (0, .ref (zb g + a0)), (1, .int v1), (2, .int v2), (3, .int v3), (4, .int v4)]) C0 dX12_canLieOther_39 (by decide) rfl ?_
    refine z_sub (lo1 := [(0, .ref (zb g + a0)), (1, .int v1), (2, .int v2), (3, .int v3), (4, .int v4), (5, .int x11), (6, .int (0 : Int32))]) [2, 3, 4, 5, 6, 1, 0] rfl ?_
    obtain ⟨x36, e_x36, h⟩ := zbd_of h
    refine r_X12_canLieOther_L41 C0 a0 v1 v2 v3 v4 μ hT0 zFU x11 (0 : Int32) x36 e_x36 ?_
    refine z_iload C0 dX12_canLieOther_119 0 rfl ?_
    obtain ⟨g37, h⟩ := zg_of h
    have h := Option.some.inj h
    obtain rfl := h
    exact z_zret C0 rfl g37 dX12_canLieOther_121
  · have h := e_x11
    obtain ⟨b9, e_b9, h⟩ := zbd_of h
    refine z_joinb b9 μ 31 35 [(0, .ref (zb g + a0)), (1, .int v1), (2, .int v2), (3, .int v3), (4, .int v4)] [] (fun z43 => ?_) (fun z43 => ?_) (fun k41 k42 => ?_)
    · have h := zif_t z43 h
      refine z_iconst (v := (1 : Int32)) C0 dX12_canLieOther_31 (by decide) ?_
      refine z_goto C0 36 dX12_canLieOther_32 (by decide) ?_
      obtain rfl := (Option.some.inj h)
      exact k_J10
    · have h := zif_f (fun q => Bool.noConfusion (z43.symm.trans q)) h
      refine z_iconst (v := (0 : Int32)) C0 dX12_canLieOther_35 (by decide) ?_
      obtain rfl := (Option.some.inj h)
      exact k_J10
    · have h := e_b9
      refine z_if_lt C0 35 dX12_canLieOther_1 (by decide) (fun c1 => ?_) (fun c1 => ?_)
      · have h := zif_t c1 h
        exact k42 (Option.some.inj h).symm
      · have h := zif_f c1 h
        refine z_iload_n C0 dX12_canLieOther_4 rfl 2 rfl ?_
        refine z_if_lt C0 35 dX12_canLieOther_5 (by decide) (fun c2 => ?_) (fun c2 => ?_)
        · have h := zif_t c2 h
          exact k42 (Option.some.inj h).symm
        · have h := zif_f c2 h
          refine z_iload_n C0 dX12_canLieOther_8 rfl 1 rfl ?_
          refine z_iload_n C0 dX12_canLieOther_9 rfl 3 rfl ?_
          refine z_iadd C0 dX12_canLieOther_10 ?_
          refine z_aload_n C0 dX12_canLieOther_11 rfl 0 rfl ?_
          refine z_iconst (v := (0 : Int32)) C0 dX12_canLieOther_12 (by decide) ?_
          obtain ⟨r4, e_r4, h⟩ := zbd_of h
          refine z_callV (As := [.int (0 : Int32)]) (rest := [.int (v1 + v3)]) C0 rfl kc_X12_of km_RX12_180 (r_X12_of (l := l) (g := g) a0 (0 : Int32) μ hT0 e_r4) hT0.1 hT0.2.2.1 rfl (by decide) rfl (Nat.le_of_ble_eq_true rfl) (Nat.le_of_ble_eq_true rfl) (Nat.le_of_ble_eq_true rfl) (Nat.le_of_ble_eq_true rfl) (Nat.le_refl _) rfl rfl dX12_canLieOther_13 ?_
          refine z_icmp_gt C0 35 dX12_canLieOther_16 (by decide) (fun c5 => ?_) (fun c5 => ?_)
          · have h := zif_t c5 h
            exact k42 (Option.some.inj h).symm
          · have h := zif_f c5 h
            refine z_iload_n C0 dX12_canLieOther_19 rfl 2 rfl ?_
            refine z_iload C0 dX12_canLieOther_20 4 rfl ?_
            refine z_iadd C0 dX12_canLieOther_22 ?_
            refine z_aload_n C0 dX12_canLieOther_23 rfl 0 rfl ?_
            refine z_iconst (v := (1 : Int32)) C0 dX12_canLieOther_24 (by decide) ?_
            obtain ⟨r7, e_r7, h⟩ := zbd_of h
            refine z_callV (As := [.int (1 : Int32)]) (rest := [.int (v2 + v4)]) C0 rfl kc_X12_of km_RX12_180 (r_X12_of (l := l) (g := g) a0 (1 : Int32) μ hT0 e_r7) hT0.1 hT0.2.2.1 rfl (by decide) rfl (Nat.le_of_ble_eq_true rfl) (Nat.le_of_ble_eq_true rfl) (Nat.le_of_ble_eq_true rfl) (Nat.le_of_ble_eq_true rfl) (Nat.le_refl _) rfl rfl dX12_canLieOther_25 ?_
            refine z_icmp_gt C0 35 dX12_canLieOther_28 (by decide) (fun c8 => ?_) (fun c8 => ?_)
            · have h := zif_t c8 h
              exact k42 (Option.some.inj h).symm
            · have h := zif_f c8 h
              exact k41 (Option.some.inj h).symm
def f_X12_moves (a0 : Nat) (v1 : Int32) (v2 : Int32) (μ : zM) : Option (zM) :=
  zbd (zbd (if v1 = 0 then
        some false
      else
        zbd (f_X12_canLie a0 ((μ a0 12) + v1) (μ a0 13) μ) fun r3 =>
        if r3 = 0 then
          some false
        else
          some true) fun b5 =>
    if b5 = true then
      zl (zup μ a0 12 ((μ a0 12) + v1)) fun μ7 =>
      some μ7
    else
      zl (if v1 = 0 then
          (0 : Int32)
        else
          (1 : Int32)) fun x10 =>
      zl (zup μ a0 15 ((μ a0 15) + x10)) fun μ11 =>
      some μ11) fun μ12 =>
  zbd (zbd (if v2 = 0 then
        some false
      else
        zbd (f_X12_canLie a0 (μ12 a0 12) ((μ12 a0 13) + v2) μ12) fun r15 =>
        if r15 = 0 then
          some false
        else
          some true) fun b17 =>
    if b17 = true then
      zl (zup μ12 a0 13 ((μ12 a0 13) + v2)) fun μ19 =>
      some μ19
    else
      zl (if v2 = 0 then
          (0 : Int32)
        else
          (1 : Int32)) fun x22 =>
      zl (zup μ12 a0 15 ((μ12 a0 15) + x22)) fun μ23 =>
      some μ23) fun μ24 =>
  some μ24
set_option maxHeartbeats 4000000 in
set_option maxRecDepth 100000 in
theorem r_X12_moves {l : Launch} {g : zL} (a0 : Nat) (v1 : Int32) (v2 : Int32) (μ : zM) (hT0 : zT zNN zσ1 a0 12) {μr : zM} (h : f_X12_moves a0 v1 v2 μ = some μr) : zMet l g yX12_moves cX12_moves 3 none 2 0 0 zNN zNN zσ1 zσ1 [.ref (zb g + a0), .int v1, .int v2] μ none μr := by
  refine zMet.of (by decide +kernel) (Nat.le_of_ble_eq_true rfl) ?_
  intro p e s m args below meth c C0
  refine z_loc (lo1 := [(0, .ref (zb g + a0)), (1, .int v1), (2, .int v2)]) rfl ?_
  unfold f_X12_moves at h
  refine z_iload_n C0 dX12_moves_0 rfl 1 rfl ?_
  obtain ⟨μ12, e_μ12, h⟩ := zbd_of h
  refine z_join μ12 52 [(0, .ref (zb g + a0)), (2, .int v2)] [] ?_ (fun k_J6 => ?_)
  · refine z_iload_n C0 dX12_moves_52 rfl 1 rfl ?_
    obtain ⟨μ24, e_μ24, h⟩ := zbd_of h
    refine z_join μ24 104 [] [] ?_ (fun k_J18 => ?_)
    · have h := Option.some.inj h
      obtain rfl := h
      exact z_vret C0 rfl dX12_moves_104
    · have h := e_μ24
      obtain ⟨b17, e_b17, h⟩ := zbd_of h
      refine z_joinb b17 μ12 73 86 [(0, .ref (zb g + a0)), (2, .int v2)] [] (fun z27 => ?_) (fun z27 => ?_) (fun k25 k26 => ?_)
      · have h := zif_t z27 h
        refine z_aload_n C0 dX12_moves_73 rfl 0 rfl ?_
        refine z_dup C0 dX12_moves_74 rfl ?_
        refine z_geti C0 hT0.1 hT0.2.2.1 kf_12_221 zr_12_13 dX12_moves_75 ?_
        refine z_iload_n C0 dX12_moves_78 rfl 1 rfl ?_
        refine z_iadd C0 dX12_moves_79 ?_
        obtain ⟨μ19, e_μ19, h⟩ := zl_of h
        refine z_puti C0 hT0.1 hT0.2.2.1 kf_12_221 zp_12_13 zr_12_13 e_μ19 dX12_moves_80 ?_
        refine z_goto C0 104 dX12_moves_83 (by decide) ?_
        refine z_sub (lo1 := []) [] rfl ?_
        obtain rfl := (Option.some.inj h)
        exact k_J18
      · have h := zif_f (fun q => Bool.noConfusion (z27.symm.trans q)) h
        refine z_aload_n C0 dX12_moves_86 rfl 0 rfl ?_
        refine z_dup C0 dX12_moves_87 rfl ?_
        refine z_geti C0 hT0.1 hT0.2.2.1 kf_12_227 zr_12_15 dX12_moves_88 ?_
        refine z_iload_n C0 dX12_moves_91 rfl 1 rfl ?_
        obtain ⟨x22, e_x22, h⟩ := zl_of h
        refine z_join μ12 100 [] [.int x22, .int (μ12 a0 15), .ref (zb g + a0)] ?_ (fun k_J21 => ?_)
        · refine z_iadd C0 dX12_moves_100 ?_
          obtain ⟨μ23, e_μ23, h⟩ := zl_of h
          refine z_puti C0 hT0.1 hT0.2.2.1 kf_12_227 zp_12_15 zr_12_15 e_μ23 dX12_moves_101 ?_
          obtain rfl := (Option.some.inj h)
          exact k_J18
        · have h := e_x22.symm
          refine z_if_eq C0 99 dX12_moves_92 (by decide) (fun c20 => ?_) (fun c20 => ?_)
          · have h := zif_t c20 h
            refine z_iconst (v := (0 : Int32)) C0 dX12_moves_99 (by decide) ?_
            refine z_sub (lo1 := []) [] rfl ?_
            obtain rfl := h
            exact k_J21
          · have h := zif_f c20 h
            refine z_iconst (v := (1 : Int32)) C0 dX12_moves_95 (by decide) ?_
            refine z_goto C0 100 dX12_moves_96 (by decide) ?_
            refine z_sub (lo1 := []) [] rfl ?_
            obtain rfl := h
            exact k_J21
      · have h := e_b17
        refine z_if_eq C0 86 dX12_moves_53 (by decide) (fun c13 => ?_) (fun c13 => ?_)
        · have h := zif_t c13 h
          exact k26 (Option.some.inj h).symm
        · have h := zif_f c13 h
          refine z_aload_n C0 dX12_moves_56 rfl 0 rfl ?_
          refine z_aload_n C0 dX12_moves_57 rfl 0 rfl ?_
          refine z_geti C0 hT0.1 hT0.2.2.1 kf_12_218 zr_12_12 dX12_moves_58 ?_
          refine z_aload_n C0 dX12_moves_61 rfl 0 rfl ?_
          refine z_geti C0 hT0.1 hT0.2.2.1 kf_12_221 zr_12_13 dX12_moves_62 ?_
          refine z_iload_n C0 dX12_moves_65 rfl 1 rfl ?_
          refine z_iadd C0 dX12_moves_66 ?_
          obtain ⟨r15, e_r15, h⟩ := zbd_of h
          refine z_callV (As := [.int (μ12 a0 12), .int ((μ12 a0 13) + v2)]) (rest := []) C0 rfl kc_X12_canLie km_RX12_270 (r_X12_canLie (l := l) (g := g) a0 (μ12 a0 12) ((μ12 a0 13) + v2) μ12 hT0 e_r15) hT0.1 hT0.2.2.1 rfl (by decide) rfl (Nat.le_of_ble_eq_true rfl) (Nat.le_of_ble_eq_true rfl) (Nat.le_of_ble_eq_true rfl) (Nat.le_of_ble_eq_true rfl) (Nat.le_refl _) rfl rfl dX12_moves_67 ?_
          refine z_if_eq C0 86 dX12_moves_70 (by decide) (fun c16 => ?_) (fun c16 => ?_)
          · have h := zif_t c16 h
            exact k26 (Option.some.inj h).symm
          · have h := zif_f c16 h
            exact k25 (Option.some.inj h).symm
  · have h := e_μ12
    obtain ⟨b5, e_b5, h⟩ := zbd_of h
    refine z_joinb b5 μ 21 34 [(0, .ref (zb g + a0)), (1, .int v1), (2, .int v2)] [] (fun z30 => ?_) (fun z30 => ?_) (fun k28 k29 => ?_)
    · have h := zif_t z30 h
      refine z_aload_n C0 dX12_moves_21 rfl 0 rfl ?_
      refine z_dup C0 dX12_moves_22 rfl ?_
      refine z_geti C0 hT0.1 hT0.2.2.1 kf_12_218 zr_12_12 dX12_moves_23 ?_
      refine z_iload_n C0 dX12_moves_26 rfl 1 rfl ?_
      refine z_iadd C0 dX12_moves_27 ?_
      obtain ⟨μ7, e_μ7, h⟩ := zl_of h
      refine z_puti C0 hT0.1 hT0.2.2.1 kf_12_218 zp_12_12 zr_12_12 e_μ7 dX12_moves_28 ?_
      refine z_goto C0 52 dX12_moves_31 (by decide) ?_
      refine z_sub (lo1 := [(0, .ref (zb g + a0)), (2, .int v2)]) [0, 2] rfl ?_
      obtain rfl := (Option.some.inj h)
      exact k_J6
    · have h := zif_f (fun q => Bool.noConfusion (z30.symm.trans q)) h
      refine z_aload_n C0 dX12_moves_34 rfl 0 rfl ?_
      refine z_dup C0 dX12_moves_35 rfl ?_
      refine z_geti C0 hT0.1 hT0.2.2.1 kf_12_227 zr_12_15 dX12_moves_36 ?_
      refine z_iload_n C0 dX12_moves_39 rfl 1 rfl ?_
      obtain ⟨x10, e_x10, h⟩ := zl_of h
      refine z_join μ 48 [(0, .ref (zb g + a0)), (2, .int v2)] [.int x10, .int (μ a0 15), .ref (zb g + a0)] ?_ (fun k_J9 => ?_)
      · refine z_iadd C0 dX12_moves_48 ?_
        obtain ⟨μ11, e_μ11, h⟩ := zl_of h
        refine z_puti C0 hT0.1 hT0.2.2.1 kf_12_227 zp_12_15 zr_12_15 e_μ11 dX12_moves_49 ?_
        obtain rfl := (Option.some.inj h)
        exact k_J6
      · have h := e_x10.symm
        refine z_if_eq C0 47 dX12_moves_40 (by decide) (fun c8 => ?_) (fun c8 => ?_)
        · have h := zif_t c8 h
          refine z_iconst (v := (0 : Int32)) C0 dX12_moves_47 (by decide) ?_
          refine z_sub (lo1 := [(0, .ref (zb g + a0)), (2, .int v2)]) [0, 2] rfl ?_
          obtain rfl := h
          exact k_J9
        · have h := zif_f c8 h
          refine z_iconst (v := (1 : Int32)) C0 dX12_moves_43 (by decide) ?_
          refine z_goto C0 48 dX12_moves_44 (by decide) ?_
          refine z_sub (lo1 := [(0, .ref (zb g + a0)), (2, .int v2)]) [0, 2] rfl ?_
          obtain rfl := h
          exact k_J9
    · have h := e_b5
      refine z_if_eq C0 34 dX12_moves_1 (by decide) (fun c1 => ?_) (fun c1 => ?_)
      · have h := zif_t c1 h
        exact k29 (Option.some.inj h).symm
      · have h := zif_f c1 h
        refine z_aload_n C0 dX12_moves_4 rfl 0 rfl ?_
        refine z_aload_n C0 dX12_moves_5 rfl 0 rfl ?_
        refine z_geti C0 hT0.1 hT0.2.2.1 kf_12_218 zr_12_12 dX12_moves_6 ?_
        refine z_iload_n C0 dX12_moves_9 rfl 1 rfl ?_
        refine z_iadd C0 dX12_moves_10 ?_
        refine z_aload_n C0 dX12_moves_11 rfl 0 rfl ?_
        refine z_geti C0 hT0.1 hT0.2.2.1 kf_12_221 zr_12_13 dX12_moves_12 ?_
        obtain ⟨r3, e_r3, h⟩ := zbd_of h
        refine z_callV (As := [.int ((μ a0 12) + v1), .int (μ a0 13)]) (rest := []) C0 rfl kc_X12_canLie km_RX12_270 (r_X12_canLie (l := l) (g := g) a0 ((μ a0 12) + v1) (μ a0 13) μ hT0 e_r3) hT0.1 hT0.2.2.1 rfl (by decide) rfl (Nat.le_of_ble_eq_true rfl) (Nat.le_of_ble_eq_true rfl) (Nat.le_of_ble_eq_true rfl) (Nat.le_of_ble_eq_true rfl) (Nat.le_refl _) rfl rfl dX12_moves_15 ?_
        refine z_if_eq C0 34 dX12_moves_18 (by decide) (fun c4 => ?_) (fun c4 => ?_)
        · have h := zif_t c4 h
          exact k29 (Option.some.inj h).symm
        · have h := zif_f c4 h
          exact k28 (Option.some.inj h).symm
def f_X12_cellAfter (a0 : Nat) (v1 : Int32) (v2 : Int32) (μ : zM) : Option (Int32 × zM) :=
  zl (zup μ a0 12 (v1 % (12 : Int32))) fun μ1 =>
  zl (zup μ1 a0 13 (v1 / (12 : Int32))) fun μ2 =>
  zbd (f_X12_moves a0 ((v2 / (3 : Int32)) - (1 : Int32)) ((v2 % (3 : Int32)) - (1 : Int32)) μ2) fun μ3 =>
  some ((((12 : Int32) * (μ3 a0 13)) + (μ3 a0 12)), μ3)
set_option maxHeartbeats 4000000 in
set_option maxRecDepth 100000 in
theorem r_X12_cellAfter {l : Launch} {g : zL} (a0 : Nat) (v1 : Int32) (v2 : Int32) (μ : zM) (hT0 : zT zNN zσ1 a0 12) {rv : Int32} {μr : zM} (h : f_X12_cellAfter a0 v1 v2 μ = some (rv, μr)) : zMet l g yX12_cellAfter cX12_cellAfter 3 (some (.int)) 3 0 0 zNN zNN zσ1 zσ1 [.ref (zb g + a0), .int v1, .int v2] μ (some (.int rv)) μr := by
  refine zMet.of (by decide +kernel) (Nat.le_of_ble_eq_true rfl) ?_
  intro p e s m args below meth c C0
  refine z_loc (lo1 := [(0, .ref (zb g + a0)), (1, .int v1), (2, .int v2)]) rfl ?_
  unfold f_X12_cellAfter at h
  refine z_aload_n C0 dX12_cellAfter_0 rfl 0 rfl ?_
  refine z_iload_n C0 dX12_cellAfter_1 rfl 1 rfl ?_
  refine z_bipush (v := (12 : Int32)) C0 dX12_cellAfter_2 (by decide) ?_
  refine z_irem C0 dX12_cellAfter_4 (by decide) ?_
  obtain ⟨μ1, e_μ1, h⟩ := zl_of h
  refine z_puti C0 hT0.1 hT0.2.2.1 kf_12_218 zp_12_12 zr_12_12 e_μ1 dX12_cellAfter_5 ?_
  refine z_aload_n C0 dX12_cellAfter_8 rfl 0 rfl ?_
  refine z_iload_n C0 dX12_cellAfter_9 rfl 1 rfl ?_
  refine z_bipush (v := (12 : Int32)) C0 dX12_cellAfter_10 (by decide) ?_
  refine z_idiv C0 dX12_cellAfter_12 (by decide) ?_
  obtain ⟨μ2, e_μ2, h⟩ := zl_of h
  refine z_puti C0 hT0.1 hT0.2.2.1 kf_12_221 zp_12_13 zr_12_13 e_μ2 dX12_cellAfter_13 ?_
  refine z_aload_n C0 dX12_cellAfter_16 rfl 0 rfl ?_
  refine z_iload_n C0 dX12_cellAfter_17 rfl 2 rfl ?_
  refine z_iconst (v := (3 : Int32)) C0 dX12_cellAfter_18 (by decide) ?_
  refine z_idiv C0 dX12_cellAfter_19 (by decide) ?_
  refine z_iconst (v := (1 : Int32)) C0 dX12_cellAfter_20 (by decide) ?_
  refine z_isub C0 dX12_cellAfter_21 ?_
  refine z_iload_n C0 dX12_cellAfter_22 rfl 2 rfl ?_
  refine z_iconst (v := (3 : Int32)) C0 dX12_cellAfter_23 (by decide) ?_
  refine z_irem C0 dX12_cellAfter_24 (by decide) ?_
  refine z_iconst (v := (1 : Int32)) C0 dX12_cellAfter_25 (by decide) ?_
  refine z_isub C0 dX12_cellAfter_26 ?_
  obtain ⟨μ3, e_μ3, h⟩ := zbd_of h
  refine z_callV (As := [.int ((v2 / (3 : Int32)) - (1 : Int32)), .int ((v2 % (3 : Int32)) - (1 : Int32))]) (rest := []) C0 rfl kc_X12_moves km_RX12_279 (r_X12_moves (l := l) (g := g) a0 ((v2 / (3 : Int32)) - (1 : Int32)) ((v2 % (3 : Int32)) - (1 : Int32)) μ2 hT0 e_μ3) hT0.1 hT0.2.2.1 rfl (by decide) rfl (Nat.le_of_ble_eq_true rfl) (Nat.le_of_ble_eq_true rfl) (Nat.le_of_ble_eq_true rfl) (Nat.le_of_ble_eq_true rfl) (Nat.le_refl _) rfl rfl dX12_cellAfter_27 ?_
  refine z_bipush (v := (12 : Int32)) C0 dX12_cellAfter_30 (by decide) ?_
  refine z_aload_n C0 dX12_cellAfter_32 rfl 0 rfl ?_
  refine z_geti C0 hT0.1 hT0.2.2.1 kf_12_221 zr_12_13 dX12_cellAfter_33 ?_
  refine z_imul C0 dX12_cellAfter_36 ?_
  refine z_aload_n C0 dX12_cellAfter_37 rfl 0 rfl ?_
  refine z_geti C0 hT0.1 hT0.2.2.1 kf_12_218 zr_12_12 dX12_cellAfter_38 ?_
  refine z_iadd C0 dX12_cellAfter_41 ?_
  have h := Option.some.inj h
  obtain ⟨rfl, rfl⟩ := Prod.mk.inj h
  exact z_iret C0 rfl dX12_cellAfter_42
def f_X12_clears_L2 (a0 : Nat) (v1 : Int32) : Nat → Int32 → zM → Option (zM)
  | 0, _, _ => none
  | n + 1, y2, μ3 =>
    if (121 : Int32) ≤ y2 then
      some μ3
    else
      zg (zin y2 121) <|
      zl (zup μ3 (a0 + 3) (y2.toNatClampNeg) (0 : Int32)) fun μ6 =>
      zl (y2 + (1 : Int32)) fun x7 =>
      f_X12_clears_L2 a0 v1 n x7 μ6
def f_X12_clears (a0 : Nat) (v1 : Int32) (μ : zM) : Option (zM) :=
  zbd (f_X12_clears_L2 a0 v1 zFU (0 : Int32) μ) fun μ8 =>
  if v1 = 0 then
    zl (zup μ8 (a0 + 3) 0 (8 : Int32)) fun μ10 =>
    zl (zup μ10 (a0 + 3) 1 (8 : Int32)) fun μ11 =>
    zl (zup μ11 (a0 + 3) 2 (3 : Int32)) fun μ12 =>
    zl (zup μ12 (a0 + 3) 3 (2 : Int32)) fun μ13 =>
    zl (zup μ13 (a0 + 3) 6 (5 : Int32)) fun μ14 =>
    zl (zup μ14 (a0 + 3) 7 (4 : Int32)) fun μ15 =>
    zl (zup μ15 (a0 + 3) 8 (40 : Int32)) fun μ16 =>
    zl (zup μ16 (a0 + 3) 9 (1 : Int32)) fun μ17 =>
    zl (zup μ17 (a0 + 3) 10 (3 : Int32)) fun μ18 =>
    some μ18
  else
    some μ8
set_option maxHeartbeats 4000000 in
set_option maxRecDepth 100000 in
theorem r_X12_clears_L2 {l : Launch} {g : zL} {p : Program} {e : Env} {s : State} {m : MethodId} {args : Array Value} {below : List Frame} {meth : Method} {c : Code} {Q : State → Prop} (C0 : zC p s m args meth c g cX12_clears yX12_clears 3 none) (a0 : Nat) (v1 : Int32) (hU1 : zT zNN zσ1 a0 12) : ∀ (n : Nat) (y2 : Int32) (μ3 : zM) (μ8 : zM), f_X12_clears_L2 a0 v1 n y2 μ3 = some μ8 → Z p l e (zrm 0 0 0) s m args below meth c g Q 3 zNN 0 0 zσ1 μ8 21 [(0, .ref (zb g + a0)), (1, .int v1)] [] → Z p l e (zrm 0 0 0) s m args below meth c g Q 3 zNN 0 0 zσ1 μ3 2 [(0, .ref (zb g + a0)), (1, .int v1), (2, .int y2)] [] := by
  intro n
  induction n with
  | zero =>
    intro y2 μ3 μ8 h kx
    rw [f_X12_clears_L2] at h
    cases h
  | succ n ih =>
    intro y2 μ3 μ8 h kx
    rw [f_X12_clears_L2] at h
    refine z_iload_n C0 dX12_clears_2 rfl 2 rfl ?_
    refine z_bipush (v := (121 : Int32)) C0 dX12_clears_3 (by decide) ?_
    refine z_icmp_ge C0 21 dX12_clears_5 (by decide) (fun c4 => ?_) (fun c4 => ?_)
    · have h := zif_t c4 h
      refine z_sub (lo1 := [(0, .ref (zb g + a0)), (1, .int v1)]) [0, 1] rfl ?_
      obtain rfl := (Option.some.inj h)
      exact kx
    · have h := zif_f c4 h
      refine z_aload_n C0 dX12_clears_8 rfl 0 rfl ?_
      refine z_getr C0 hU1 kf_12_17 zr_12_9 zx_12 (zs_12_9 hU1).1 dX12_clears_9 ?_
      refine z_iload_n C0 dX12_clears_12 rfl 2 rfl ?_
      refine z_iconst (v := (0 : Int32)) C0 dX12_clears_13 (by decide) ?_
      obtain ⟨g5, h⟩ := zg_of h
      obtain ⟨μ6, e_μ6, h⟩ := zl_of h
      refine z_iast C0 (zs_12_9 hU1).2 g5 rfl e_μ6 dX12_clears_14 ?_
      obtain ⟨x7, e_x7, h⟩ := zl_of h
      refine z_iinc (lo1 := [(2, .int x7), (0, .ref (zb g + a0)), (1, .int v1)]) C0 dX12_clears_15 2 rfl (by decide) e_x7.symm (by decide) rfl ?_
      refine z_goto C0 2 dX12_clears_18 (by decide) ?_
      refine z_sub (lo1 := [(0, .ref (zb g + a0)), (1, .int v1), (2, .int x7)]) [1, 2, 0] rfl ?_
      exact ih _ _ _ h kx
set_option maxHeartbeats 4000000 in
set_option maxRecDepth 100000 in
theorem r_X12_clears {l : Launch} {g : zL} (a0 : Nat) (v1 : Int32) (μ : zM) (hT0 : zT zNN zσ1 a0 12) {μr : zM} (h : f_X12_clears a0 v1 μ = some μr) : zMet l g yX12_clears cX12_clears 3 none 0 0 0 zNN zNN zσ1 zσ1 [.ref (zb g + a0), .int v1] μ none μr := by
  refine zMet.of (by decide +kernel) (Nat.le_of_ble_eq_true rfl) ?_
  intro p e s m args below meth c C0
  refine z_loc (lo1 := [(0, .ref (zb g + a0)), (1, .int v1)]) rfl ?_
  unfold f_X12_clears at h
  refine z_iconst (v := (0 : Int32)) C0 dX12_clears_0 (by decide) ?_
  refine z_istore_n (lo1 := [(2, .int (0 : Int32)), (0, .ref (zb g + a0)), (1, .int v1)]) C0 dX12_clears_1 rfl (by decide) rfl ?_
  refine z_sub (lo1 := [(0, .ref (zb g + a0)), (1, .int v1), (2, .int (0 : Int32))]) [1, 2, 0] rfl ?_
  obtain ⟨μ8, e_μ8, h⟩ := zbd_of h
  refine r_X12_clears_L2 C0 a0 v1 hT0 zFU (0 : Int32) μ μ8 e_μ8 ?_
  refine z_iload_n C0 dX12_clears_21 rfl 1 rfl ?_
  refine z_if_eq C0 26 dX12_clears_22 (by decide) (fun c9 => ?_) (fun c9 => ?_)
  · have h := zif_t c9 h
    refine z_aload_n C0 dX12_clears_26 rfl 0 rfl ?_
    refine z_getr C0 hT0 kf_12_17 zr_12_9 zx_12 (zs_12_9 hT0).1 dX12_clears_27 ?_
    refine z_iconst (v := (0 : Int32)) C0 dX12_clears_30 (by decide) ?_
    refine z_bipush (v := (8 : Int32)) C0 dX12_clears_31 (by decide) ?_
    obtain ⟨μ10, e_μ10, h⟩ := zl_of h
    refine z_iast (j := 0) C0 (zs_12_9 hT0).2 (by decide : zin (0 : Int32) 121 = true) (by decide) e_μ10 dX12_clears_33 ?_
    refine z_aload_n C0 dX12_clears_34 rfl 0 rfl ?_
    refine z_getr C0 hT0 kf_12_17 zr_12_9 zx_12 (zs_12_9 hT0).1 dX12_clears_35 ?_
    refine z_iconst (v := (1 : Int32)) C0 dX12_clears_38 (by decide) ?_
    refine z_bipush (v := (8 : Int32)) C0 dX12_clears_39 (by decide) ?_
    obtain ⟨μ11, e_μ11, h⟩ := zl_of h
    refine z_iast (j := 1) C0 (zs_12_9 hT0).2 (by decide : zin (1 : Int32) 121 = true) (by decide) e_μ11 dX12_clears_41 ?_
    refine z_aload_n C0 dX12_clears_42 rfl 0 rfl ?_
    refine z_getr C0 hT0 kf_12_17 zr_12_9 zx_12 (zs_12_9 hT0).1 dX12_clears_43 ?_
    refine z_iconst (v := (2 : Int32)) C0 dX12_clears_46 (by decide) ?_
    refine z_iconst (v := (3 : Int32)) C0 dX12_clears_47 (by decide) ?_
    obtain ⟨μ12, e_μ12, h⟩ := zl_of h
    refine z_iast (j := 2) C0 (zs_12_9 hT0).2 (by decide : zin (2 : Int32) 121 = true) (by decide) e_μ12 dX12_clears_48 ?_
    refine z_aload_n C0 dX12_clears_49 rfl 0 rfl ?_
    refine z_getr C0 hT0 kf_12_17 zr_12_9 zx_12 (zs_12_9 hT0).1 dX12_clears_50 ?_
    refine z_iconst (v := (3 : Int32)) C0 dX12_clears_53 (by decide) ?_
    refine z_iconst (v := (2 : Int32)) C0 dX12_clears_54 (by decide) ?_
    obtain ⟨μ13, e_μ13, h⟩ := zl_of h
    refine z_iast (j := 3) C0 (zs_12_9 hT0).2 (by decide : zin (3 : Int32) 121 = true) (by decide) e_μ13 dX12_clears_55 ?_
    refine z_aload_n C0 dX12_clears_56 rfl 0 rfl ?_
    refine z_getr C0 hT0 kf_12_17 zr_12_9 zx_12 (zs_12_9 hT0).1 dX12_clears_57 ?_
    refine z_bipush (v := (6 : Int32)) C0 dX12_clears_60 (by decide) ?_
    refine z_iconst (v := (5 : Int32)) C0 dX12_clears_62 (by decide) ?_
    obtain ⟨μ14, e_μ14, h⟩ := zl_of h
    refine z_iast (j := 6) C0 (zs_12_9 hT0).2 (by decide : zin (6 : Int32) 121 = true) (by decide) e_μ14 dX12_clears_63 ?_
    refine z_aload_n C0 dX12_clears_64 rfl 0 rfl ?_
    refine z_getr C0 hT0 kf_12_17 zr_12_9 zx_12 (zs_12_9 hT0).1 dX12_clears_65 ?_
    refine z_bipush (v := (7 : Int32)) C0 dX12_clears_68 (by decide) ?_
    refine z_iconst (v := (4 : Int32)) C0 dX12_clears_70 (by decide) ?_
    obtain ⟨μ15, e_μ15, h⟩ := zl_of h
    refine z_iast (j := 7) C0 (zs_12_9 hT0).2 (by decide : zin (7 : Int32) 121 = true) (by decide) e_μ15 dX12_clears_71 ?_
    refine z_aload_n C0 dX12_clears_72 rfl 0 rfl ?_
    refine z_getr C0 hT0 kf_12_17 zr_12_9 zx_12 (zs_12_9 hT0).1 dX12_clears_73 ?_
    refine z_bipush (v := (8 : Int32)) C0 dX12_clears_76 (by decide) ?_
    refine z_bipush (v := (40 : Int32)) C0 dX12_clears_78 (by decide) ?_
    obtain ⟨μ16, e_μ16, h⟩ := zl_of h
    refine z_iast (j := 8) C0 (zs_12_9 hT0).2 (by decide : zin (8 : Int32) 121 = true) (by decide) e_μ16 dX12_clears_80 ?_
    refine z_aload_n C0 dX12_clears_81 rfl 0 rfl ?_
    refine z_getr C0 hT0 kf_12_17 zr_12_9 zx_12 (zs_12_9 hT0).1 dX12_clears_82 ?_
    refine z_bipush (v := (9 : Int32)) C0 dX12_clears_85 (by decide) ?_
    refine z_iconst (v := (1 : Int32)) C0 dX12_clears_87 (by decide) ?_
    obtain ⟨μ17, e_μ17, h⟩ := zl_of h
    refine z_iast (j := 9) C0 (zs_12_9 hT0).2 (by decide : zin (9 : Int32) 121 = true) (by decide) e_μ17 dX12_clears_88 ?_
    refine z_aload_n C0 dX12_clears_89 rfl 0 rfl ?_
    refine z_getr C0 hT0 kf_12_17 zr_12_9 zx_12 (zs_12_9 hT0).1 dX12_clears_90 ?_
    refine z_bipush (v := (10 : Int32)) C0 dX12_clears_93 (by decide) ?_
    refine z_iconst (v := (3 : Int32)) C0 dX12_clears_95 (by decide) ?_
    obtain ⟨μ18, e_μ18, h⟩ := zl_of h
    refine z_iast (j := 10) C0 (zs_12_9 hT0).2 (by decide : zin (10 : Int32) 121 = true) (by decide) e_μ18 dX12_clears_96 ?_
    have h := Option.some.inj h
    obtain rfl := h
    exact z_vret C0 rfl dX12_clears_97
  · have h := zif_f c9 h
    have h := Option.some.inj h
    obtain rfl := h
    exact z_vret C0 rfl dX12_clears_25
def f_X12_sights (a0 : Nat) (μ : zM) : Option (Int32) :=
  zg (zin (μ a0 32) 4688) <|
  some (μ (a0 + 1) ((μ a0 32).toNatClampNeg))
set_option maxHeartbeats 4000000 in
set_option maxRecDepth 100000 in
theorem r_X12_sights {l : Launch} {g : zL} (a0 : Nat) (μ : zM) (hT0 : zT zNN zσ1 a0 12) {rv : Int32} (h : f_X12_sights a0 μ = some rv) : zMet l g yX12_sights cX12_sights 1 (some (.int)) 0 0 0 zNN zNN zσ1 zσ1 [.ref (zb g + a0)] μ (some (.int rv)) μ := by
  refine zMet.of (by decide +kernel) (Nat.le_of_ble_eq_true rfl) ?_
  intro p e s m args below meth c C0
  refine z_loc (lo1 := [(0, .ref (zb g + a0))]) rfl ?_
  unfold f_X12_sights at h
  refine z_aload_n C0 dX12_sights_0 rfl 0 rfl ?_
  refine z_getr C0 hT0 kf_12_7 zr_12_0 zx_12 (zs_12_0 hT0).1 dX12_sights_1 ?_
  refine z_aload_n C0 dX12_sights_4 rfl 0 rfl ?_
  refine z_geti C0 hT0.1 hT0.2.2.1 kf_12_366 zr_12_32 dX12_sights_5 ?_
  obtain ⟨g1, h⟩ := zg_of h
  refine z_iald C0 (zs_12_0 hT0).2 g1 rfl dX12_sights_8 ?_
  have h := Option.some.inj h
  obtain rfl := h
  exact z_iret C0 rfl dX12_sights_9
def f_X12_gravesList_L5 (a0 : Nat) (v1 : Int32) (v2 : Int32) (μ4 : zM) : Nat → Int32 → Int32 → Option (Int32)
  | 0, _, _ => none
  | n + 1, y2, y3 =>
    zbd (f_X12_of a0 (12 : Int32) μ4) fun r5 =>
    if r5 ≤ y3 then
      some y2
    else
      zbd (if ¬ y3 = v2 then
          zbd (f_X12_of a0 (((56 : Int32) + ((2 : Int32) * y3)) + (1 : Int32)) μ4) fun r9 =>
          zbd (f_X12_of a0 ((56 : Int32) + ((2 : Int32) * y3)) μ4) fun r10 =>
          zbd (f_X12_arm a0 r10 v1 μ4) fun r11 =>
          some (r9 * r11)
        else
          some (0 : Int32)) fun x12 =>
      zl (y2 + x12) fun x13 =>
      zl (y3 + (1 : Int32)) fun x14 =>
      f_X12_gravesList_L5 a0 v1 v2 μ4 n x13 x14
def f_X12_gravesList (a0 : Nat) (v1 : Int32) (v2 : Int32) (μ : zM) : Option (Int32) :=
  zbd (f_X12_gravesList_L5 a0 v1 v2 μ zFU (0 : Int32) (0 : Int32)) fun x15 =>
  some x15
set_option maxHeartbeats 4000000 in
set_option maxRecDepth 100000 in
theorem r_X12_gravesList_L5 {l : Launch} {g : zL} {p : Program} {e : Env} {s : State} {m : MethodId} {args : Array Value} {below : List Frame} {meth : Method} {c : Code} {Q : State → Prop} (C0 : zC p s m args meth c g cX12_gravesList yX12_gravesList 5 (some (.int))) (a0 : Nat) (v1 : Int32) (v2 : Int32) (μ4 : zM) (hU1 : zT zNN zσ1 a0 12) : ∀ (n : Nat) (y2 : Int32) (y3 : Int32) (x15 : Int32), f_X12_gravesList_L5 a0 v1 v2 μ4 n y2 y3 = some x15 → Z p l e (zrm 2 0 0) s m args below meth c g Q 5 zNN 0 0 zσ1 μ4 65 [(3, .int x15)] [] → Z p l e (zrm 2 0 0) s m args below meth c g Q 5 zNN 0 0 zσ1 μ4 5 [(0, .ref (zb g + a0)), (1, .int v1), (2, .int v2), (3, .int y2), (4, .int y3)] [] := by
  intro n
  induction n with
  | zero =>
    intro y2 y3 x15 h kx
    rw [f_X12_gravesList_L5] at h
    cases h
  | succ n ih =>
    intro y2 y3 x15 h kx
    rw [f_X12_gravesList_L5] at h
    refine z_iload C0 dX12_gravesList_5 4 rfl ?_
    refine z_aload_n C0 dX12_gravesList_7 rfl 0 rfl ?_
    refine z_bipush (v := (12 : Int32)) C0 dX12_gravesList_8 (by decide) ?_
    obtain ⟨r5, e_r5, h⟩ := zbd_of h
    refine z_callV (As := [.int (12 : Int32)]) (rest := [.int y3]) C0 rfl kc_X12_of km_RX12_180 (r_X12_of (l := l) (g := g) a0 (12 : Int32) μ4 hU1 e_r5) hU1.1 hU1.2.2.1 rfl (by decide) rfl (Nat.le_of_ble_eq_true rfl) (Nat.le_of_ble_eq_true rfl) (Nat.le_of_ble_eq_true rfl) (Nat.le_of_ble_eq_true rfl) (Nat.le_refl _) rfl rfl dX12_gravesList_10 ?_
    refine z_icmp_ge C0 65 dX12_gravesList_13 (by decide) (fun c6 => ?_) (fun c6 => ?_)
    · have h := zif_t c6 h
      refine z_sub (lo1 := [(3, .int y2)]) [3] rfl ?_
      obtain rfl := (Option.some.inj h)
      exact kx
    · have h := zif_f c6 h
      refine z_iload_n C0 dX12_gravesList_16 rfl 3 rfl ?_
      refine z_iload C0 dX12_gravesList_17 4 rfl ?_
      refine z_iload_n C0 dX12_gravesList_19 rfl 2 rfl ?_
      obtain ⟨x12, e_x12, h⟩ := zbd_of h
      refine z_join μ4 57 [(0, .ref (zb g + a0)), (1, .int v1), (2, .int v2), (4, .int y3)] [.int x12, .int y2] ?_ (fun k_J8 => ?_)
      · refine z_iadd C0 dX12_gravesList_57 ?_
        obtain ⟨x13, e_x13, h⟩ := zl_of h
        refine z_nm e_x13 ?_
        refine z_istore_n (lo1 := [(3, .int x13), (0, .ref (zb g + a0)), (1, .int v1), (2, .int v2), (4, .int y3)]) C0 dX12_gravesList_58 rfl (by decide) rfl ?_
        obtain ⟨x14, e_x14, h⟩ := zl_of h
        refine z_iinc (lo1 := [(4, .int x14), (3, .int x13), (0, .ref (zb g + a0)), (1, .int v1), (2, .int v2)]) C0 dX12_gravesList_59 4 rfl (by decide) e_x14.symm (by decide) rfl ?_
        refine z_goto C0 5 dX12_gravesList_62 (by decide) ?_
        refine z_sub (lo1 := [(0, .ref (zb g + a0)), (1, .int v1), (2, .int v2), (3, .int x13), (4, .int x14)]) [2, 3, 4, 1, 0] rfl ?_
        exact ih _ _ _ h kx
      · have h := e_x12
        refine z_icmp_ne C0 27 dX12_gravesList_20 (by decide) (fun c7 => ?_) (fun c7 => ?_)
        · have h := zif_t c7 h
          refine z_aload_n C0 dX12_gravesList_27 rfl 0 rfl ?_
          refine z_bipush (v := (56 : Int32)) C0 dX12_gravesList_28 (by decide) ?_
          refine z_iconst (v := (2 : Int32)) C0 dX12_gravesList_30 (by decide) ?_
          refine z_iload C0 dX12_gravesList_31 4 rfl ?_
          refine z_imul C0 dX12_gravesList_33 ?_
          refine z_iadd C0 dX12_gravesList_34 ?_
          refine z_iconst (v := (1 : Int32)) C0 dX12_gravesList_35 (by decide) ?_
          refine z_iadd C0 dX12_gravesList_36 ?_
          obtain ⟨r9, e_r9, h⟩ := zbd_of h
          refine z_callV (As := [.int (((56 : Int32) + ((2 : Int32) * y3)) + (1 : Int32))]) (rest := [.int y2]) C0 rfl kc_X12_of km_RX12_180 (r_X12_of (l := l) (g := g) a0 (((56 : Int32) + ((2 : Int32) * y3)) + (1 : Int32)) μ4 hU1 e_r9) hU1.1 hU1.2.2.1 rfl (by decide) rfl (Nat.le_of_ble_eq_true rfl) (Nat.le_of_ble_eq_true rfl) (Nat.le_of_ble_eq_true rfl) (Nat.le_of_ble_eq_true rfl) (Nat.le_refl _) rfl rfl dX12_gravesList_37 ?_
          refine z_aload_n C0 dX12_gravesList_40 rfl 0 rfl ?_
          refine z_aload_n C0 dX12_gravesList_41 rfl 0 rfl ?_
          refine z_bipush (v := (56 : Int32)) C0 dX12_gravesList_42 (by decide) ?_
          refine z_iconst (v := (2 : Int32)) C0 dX12_gravesList_44 (by decide) ?_
          refine z_iload C0 dX12_gravesList_45 4 rfl ?_
          refine z_imul C0 dX12_gravesList_47 ?_
          refine z_iadd C0 dX12_gravesList_48 ?_
          obtain ⟨r10, e_r10, h⟩ := zbd_of h
          refine z_callV (As := [.int ((56 : Int32) + ((2 : Int32) * y3))]) (rest := [.ref (zb g + a0), .int r9, .int y2]) C0 rfl kc_X12_of km_RX12_180 (r_X12_of (l := l) (g := g) a0 ((56 : Int32) + ((2 : Int32) * y3)) μ4 hU1 e_r10) hU1.1 hU1.2.2.1 rfl (by decide) rfl (Nat.le_of_ble_eq_true rfl) (Nat.le_of_ble_eq_true rfl) (Nat.le_of_ble_eq_true rfl) (Nat.le_of_ble_eq_true rfl) (Nat.le_refl _) rfl rfl dX12_gravesList_49 ?_
          refine z_iload_n C0 dX12_gravesList_52 rfl 1 rfl ?_
          obtain ⟨r11, e_r11, h⟩ := zbd_of h
          refine z_callV (As := [.int r10, .int v1]) (rest := [.int r9, .int y2]) C0 rfl kc_X12_arm km_RX12_192 (r_X12_arm (l := l) (g := g) a0 r10 v1 μ4 hU1 e_r11) hU1.1 hU1.2.2.1 rfl (by decide) rfl (Nat.le_of_ble_eq_true rfl) (Nat.le_of_ble_eq_true rfl) (Nat.le_of_ble_eq_true rfl) (Nat.le_of_ble_eq_true rfl) (Nat.le_refl _) rfl rfl dX12_gravesList_53 ?_
          refine z_imul C0 dX12_gravesList_56 ?_
          refine z_sub (lo1 := [(0, .ref (zb g + a0)), (1, .int v1), (2, .int v2), (4, .int y3)]) [0, 1, 2, 4] rfl ?_
          obtain rfl := (Option.some.inj h)
          exact k_J8
        · have h := zif_f (fun q => q c7) h
          refine z_iconst (v := (0 : Int32)) C0 dX12_gravesList_23 (by decide) ?_
          refine z_goto C0 57 dX12_gravesList_24 (by decide) ?_
          refine z_sub (lo1 := [(0, .ref (zb g + a0)), (1, .int v1), (2, .int v2), (4, .int y3)]) [0, 1, 2, 4] rfl ?_
          obtain rfl := (Option.some.inj h)
          exact k_J8
set_option maxHeartbeats 4000000 in
set_option maxRecDepth 100000 in
theorem r_X12_gravesList {l : Launch} {g : zL} (a0 : Nat) (v1 : Int32) (v2 : Int32) (μ : zM) (hT0 : zT zNN zσ1 a0 12) {rv : Int32} (h : f_X12_gravesList a0 v1 v2 μ = some rv) : zMet l g yX12_gravesList cX12_gravesList 5 (some (.int)) 2 0 0 zNN zNN zσ1 zσ1 [.ref (zb g + a0), .int v1, .int v2] μ (some (.int rv)) μ := by
  refine zMet.of (by decide +kernel) (Nat.le_of_ble_eq_true rfl) ?_
  intro p e s m args below meth c C0
  refine z_loc (lo1 := [(0, .ref (zb g + a0)), (1, .int v1), (2, .int v2)]) rfl ?_
  unfold f_X12_gravesList at h
  refine z_iconst (v := (0 : Int32)) C0 dX12_gravesList_0 (by decide) ?_
  refine z_istore_n (lo1 := [(3, .int (0 : Int32)), (0, .ref (zb g + a0)), (1, .int v1), (2, .int v2)]) C0 dX12_gravesList_1 rfl (by decide) rfl ?_
  refine z_iconst (v := (0 : Int32)) C0 dX12_gravesList_2 (by decide) ?_
  refine z_istore (lo1 := [(4, .int (0 : Int32)), (3, .int (0 : Int32)), (0, .ref (zb g + a0)), (1, .int v1), (2, .int v2)]) C0 dX12_gravesList_3 (by decide) rfl ?_
  refine z_sub (lo1 := [(0, .ref (zb g + a0)), (1, .int v1), (2, .int v2), (3, .int (0 : Int32)), (4, .int (0 : Int32))]) [2, 3, 4, 1, 0] rfl ?_
  obtain ⟨x15, e_x15, h⟩ := zbd_of h
  refine r_X12_gravesList_L5 C0 a0 v1 v2 μ hT0 zFU (0 : Int32) (0 : Int32) x15 e_x15 ?_
  refine z_iload_n C0 dX12_gravesList_65 rfl 0 rfl ?_
  have h := Option.some.inj h
  obtain rfl := h
  exact z_iret C0 rfl dX12_gravesList_66
def f_X12_listOf_L9 (a0 : Nat) (v1 : Int32) (μ5 : zM) : Nat → Int32 → Int32 → Option (Int32)
  | 0, _, _ => none
  | n + 1, y3, y4 =>
    zbd (f_X12_mourners a0 μ5) fun r6 =>
    if r6 ≤ y4 then
      some y3
    else
      zg (zin y4 5) <|
      zbd (if ¬ (μ5 (a0 + 4) (y4.toNatClampNeg)) = (-1 : Int32) then
          zbd (f_X12_ofMourner a0 y4 (0 : Int32) μ5) fun r11 =>
          zbd (f_X12_arm a0 (μ5 (a0 + 4) (y4.toNatClampNeg)) v1 μ5) fun r12 =>
          some (r11 * r12)
        else
          some (0 : Int32)) fun x13 =>
      zl (y3 + x13) fun x14 =>
      zl (y4 + (1 : Int32)) fun x15 =>
      f_X12_listOf_L9 a0 v1 μ5 n x14 x15
def f_X12_listOf_L60 (a0 : Nat) (v1 : Int32) (μ20 : zM) : Nat → Int32 → Int32 → Option (Int32)
  | 0, _, _ => none
  | n + 1, y18, y19 =>
    zbd (f_X12_places a0 μ20) fun r21 =>
    if r21 ≤ y19 then
      some y18
    else
      zg (zin y19 16) <|
      zbd (f_X12_arm a0 y19 v1 μ20) fun r24 =>
      zl (y18 + ((μ20 (a0 + 5) (y19.toNatClampNeg)) * r24)) fun x25 =>
      zl (y19 + (1 : Int32)) fun x26 =>
      f_X12_listOf_L60 a0 v1 μ20 n x25 x26
def f_X12_listOf (a0 : Nat) (v1 : Int32) (μ : zM) : Option (Int32) :=
  zbd (f_X12_gravesList a0 v1 (-1 : Int32) μ) fun r1 =>
  zbd (f_X12_listOf_L9 a0 v1 μ zFU r1 (0 : Int32)) fun x16 =>
  zbd (f_X12_listOf_L60 a0 v1 μ zFU x16 (0 : Int32)) fun x27 =>
  some x27
set_option maxHeartbeats 4000000 in
set_option maxRecDepth 100000 in
theorem r_X12_listOf_L9 {l : Launch} {g : zL} {p : Program} {e : Env} {s : State} {m : MethodId} {args : Array Value} {below : List Frame} {meth : Method} {c : Code} {Q : State → Prop} (C0 : zC p s m args meth c g cX12_listOf yX12_listOf 4 (some (.int))) (a0 : Nat) (v1 : Int32) (μ5 : zM) (hU2 : zT zNN zσ1 a0 12) : ∀ (n : Nat) (y3 : Int32) (y4 : Int32) (x16 : Int32), f_X12_listOf_L9 a0 v1 μ5 n y3 y4 = some x16 → Z p l e (zrm 3 0 0) s m args below meth c g Q 4 zNN 0 0 zσ1 μ5 58 [(0, .ref (zb g + a0)), (1, .int v1), (2, .int x16)] [] → Z p l e (zrm 3 0 0) s m args below meth c g Q 4 zNN 0 0 zσ1 μ5 9 [(0, .ref (zb g + a0)), (1, .int v1), (2, .int y3), (3, .int y4)] [] := by
  intro n
  induction n with
  | zero =>
    intro y3 y4 x16 h kx
    rw [f_X12_listOf_L9] at h
    cases h
  | succ n ih =>
    intro y3 y4 x16 h kx
    rw [f_X12_listOf_L9] at h
    refine z_iload_n C0 dX12_listOf_9 rfl 3 rfl ?_
    refine z_aload_n C0 dX12_listOf_10 rfl 0 rfl ?_
    obtain ⟨r6, e_r6, h⟩ := zbd_of h
    refine z_callV (As := []) (rest := [.int y4]) C0 rfl kc_X12_mourners km_RX12_183 (r_X12_mourners (l := l) (g := g) a0 μ5 hU2 e_r6) hU2.1 hU2.2.2.1 rfl (by decide) rfl (Nat.le_of_ble_eq_true rfl) (Nat.le_of_ble_eq_true rfl) (Nat.le_of_ble_eq_true rfl) (Nat.le_of_ble_eq_true rfl) (Nat.le_refl _) rfl rfl dX12_listOf_11 ?_
    refine z_icmp_ge C0 58 dX12_listOf_14 (by decide) (fun c7 => ?_) (fun c7 => ?_)
    · have h := zif_t c7 h
      refine z_sub (lo1 := [(0, .ref (zb g + a0)), (1, .int v1), (2, .int y3)]) [0, 1, 2] rfl ?_
      obtain rfl := (Option.some.inj h)
      exact kx
    · have h := zif_f c7 h
      refine z_iload_n C0 dX12_listOf_17 rfl 2 rfl ?_
      refine z_aload_n C0 dX12_listOf_18 rfl 0 rfl ?_
      refine z_getr C0 hU2 kf_12_20 zr_12_23 zx_12 (zs_12_23 hU2).1 dX12_listOf_19 ?_
      refine z_iload_n C0 dX12_listOf_22 rfl 3 rfl ?_
      obtain ⟨g8, h⟩ := zg_of h
      refine z_iald C0 (zs_12_23 hU2).2 g8 rfl dX12_listOf_23 ?_
      refine z_iconst (v := (-1 : Int32)) C0 dX12_listOf_24 (by decide) ?_
      obtain ⟨x13, e_x13, h⟩ := zbd_of h
      refine z_join μ5 50 [(0, .ref (zb g + a0)), (1, .int v1), (3, .int y4)] [.int x13, .int y3] ?_ (fun k_J10 => ?_)
      · refine z_iadd C0 dX12_listOf_50 ?_
        obtain ⟨x14, e_x14, h⟩ := zl_of h
        refine z_nm e_x14 ?_
        refine z_istore_n (lo1 := [(2, .int x14), (0, .ref (zb g + a0)), (1, .int v1), (3, .int y4)]) C0 dX12_listOf_51 rfl (by decide) rfl ?_
        obtain ⟨x15, e_x15, h⟩ := zl_of h
        refine z_iinc (lo1 := [(3, .int x15), (2, .int x14), (0, .ref (zb g + a0)), (1, .int v1)]) C0 dX12_listOf_52 3 rfl (by decide) e_x15.symm (by decide) rfl ?_
        refine z_goto C0 9 dX12_listOf_55 (by decide) ?_
        refine z_sub (lo1 := [(0, .ref (zb g + a0)), (1, .int v1), (2, .int x14), (3, .int x15)]) [2, 3, 1, 0] rfl ?_
        exact ih _ _ _ h kx
      · have h := e_x13
        refine z_icmp_ne C0 32 dX12_listOf_25 (by decide) (fun c9 => ?_) (fun c9 => ?_)
        · have h := zif_t c9 h
          refine z_aload_n C0 dX12_listOf_32 rfl 0 rfl ?_
          refine z_iload_n C0 dX12_listOf_33 rfl 3 rfl ?_
          refine z_iconst (v := (0 : Int32)) C0 dX12_listOf_34 (by decide) ?_
          obtain ⟨r11, e_r11, h⟩ := zbd_of h
          refine z_callV (As := [.int y4, .int (0 : Int32)]) (rest := [.int y3]) C0 rfl kc_X12_ofMourner km_RX12_189 (r_X12_ofMourner (l := l) (g := g) a0 y4 (0 : Int32) μ5 hU2 e_r11) hU2.1 hU2.2.2.1 rfl (by decide) rfl (Nat.le_of_ble_eq_true rfl) (Nat.le_of_ble_eq_true rfl) (Nat.le_of_ble_eq_true rfl) (Nat.le_of_ble_eq_true rfl) (Nat.le_refl _) rfl rfl dX12_listOf_35 ?_
          refine z_aload_n C0 dX12_listOf_38 rfl 0 rfl ?_
          refine z_aload_n C0 dX12_listOf_39 rfl 0 rfl ?_
          refine z_getr C0 hU2 kf_12_20 zr_12_23 zx_12 (zs_12_23 hU2).1 dX12_listOf_40 ?_
          refine z_iload_n C0 dX12_listOf_43 rfl 3 rfl ?_
          refine z_iald C0 (zs_12_23 hU2).2 g8 rfl dX12_listOf_44 ?_
          refine z_iload_n C0 dX12_listOf_45 rfl 1 rfl ?_
          obtain ⟨r12, e_r12, h⟩ := zbd_of h
          refine z_callV (As := [.int (μ5 (a0 + 4) (y4.toNatClampNeg)), .int v1]) (rest := [.int r11, .int y3]) C0 rfl kc_X12_arm km_RX12_192 (r_X12_arm (l := l) (g := g) a0 (μ5 (a0 + 4) (y4.toNatClampNeg)) v1 μ5 hU2 e_r12) hU2.1 hU2.2.2.1 rfl (by decide) rfl (Nat.le_of_ble_eq_true rfl) (Nat.le_of_ble_eq_true rfl) (Nat.le_of_ble_eq_true rfl) (Nat.le_of_ble_eq_true rfl) (Nat.le_refl _) rfl rfl dX12_listOf_46 ?_
          refine z_imul C0 dX12_listOf_49 ?_
          refine z_sub (lo1 := [(0, .ref (zb g + a0)), (1, .int v1), (3, .int y4)]) [0, 1, 3] rfl ?_
          obtain rfl := (Option.some.inj h)
          exact k_J10
        · have h := zif_f (fun q => q c9) h
          refine z_iconst (v := (0 : Int32)) C0 dX12_listOf_28 (by decide) ?_
          refine z_goto C0 50 dX12_listOf_29 (by decide) ?_
          refine z_sub (lo1 := [(0, .ref (zb g + a0)), (1, .int v1), (3, .int y4)]) [0, 1, 3] rfl ?_
          obtain rfl := (Option.some.inj h)
          exact k_J10
set_option maxHeartbeats 4000000 in
set_option maxRecDepth 100000 in
theorem r_X12_listOf_L60 {l : Launch} {g : zL} {p : Program} {e : Env} {s : State} {m : MethodId} {args : Array Value} {below : List Frame} {meth : Method} {c : Code} {Q : State → Prop} (C0 : zC p s m args meth c g cX12_listOf yX12_listOf 4 (some (.int))) (a0 : Nat) (v1 : Int32) (μ20 : zM) (hU17 : zT zNN zσ1 a0 12) : ∀ (n : Nat) (y18 : Int32) (y19 : Int32) (x27 : Int32), f_X12_listOf_L60 a0 v1 μ20 n y18 y19 = some x27 → Z p l e (zrm 3 0 0) s m args below meth c g Q 4 zNN 0 0 zσ1 μ20 90 [(2, .int x27)] [] → Z p l e (zrm 3 0 0) s m args below meth c g Q 4 zNN 0 0 zσ1 μ20 60 [(0, .ref (zb g + a0)), (1, .int v1), (2, .int y18), (3, .int y19)] [] := by
  intro n
  induction n with
  | zero =>
    intro y18 y19 x27 h kx
    rw [f_X12_listOf_L60] at h
    cases h
  | succ n ih =>
    intro y18 y19 x27 h kx
    rw [f_X12_listOf_L60] at h
    refine z_iload_n C0 dX12_listOf_60 rfl 3 rfl ?_
    refine z_aload_n C0 dX12_listOf_61 rfl 0 rfl ?_
    obtain ⟨r21, e_r21, h⟩ := zbd_of h
    refine z_callV (As := []) (rest := [.int y19]) C0 rfl kc_X12_places km_RX12_257 (r_X12_places (l := l) (g := g) a0 μ20 hU17 e_r21) hU17.1 hU17.2.2.1 rfl (by decide) rfl (Nat.le_of_ble_eq_true rfl) (Nat.le_of_ble_eq_true rfl) (Nat.le_of_ble_eq_true rfl) (Nat.le_of_ble_eq_true rfl) (Nat.le_refl _) rfl rfl dX12_listOf_62 ?_
    refine z_icmp_ge C0 90 dX12_listOf_65 (by decide) (fun c22 => ?_) (fun c22 => ?_)
    · have h := zif_t c22 h
      refine z_sub (lo1 := [(2, .int y18)]) [2] rfl ?_
      obtain rfl := (Option.some.inj h)
      exact kx
    · have h := zif_f c22 h
      refine z_iload_n C0 dX12_listOf_68 rfl 2 rfl ?_
      refine z_aload_n C0 dX12_listOf_69 rfl 0 rfl ?_
      refine z_getr C0 hU17 kf_12_23 zr_12_24 zx_12 (zs_12_24 hU17).1 dX12_listOf_70 ?_
      refine z_iload_n C0 dX12_listOf_73 rfl 3 rfl ?_
      obtain ⟨g23, h⟩ := zg_of h
      refine z_iald C0 (zs_12_24 hU17).2 g23 rfl dX12_listOf_74 ?_
      refine z_aload_n C0 dX12_listOf_75 rfl 0 rfl ?_
      refine z_iload_n C0 dX12_listOf_76 rfl 3 rfl ?_
      refine z_iload_n C0 dX12_listOf_77 rfl 1 rfl ?_
      obtain ⟨r24, e_r24, h⟩ := zbd_of h
      refine z_callV (As := [.int y19, .int v1]) (rest := [.int (μ20 (a0 + 5) (y19.toNatClampNeg)), .int y18]) C0 rfl kc_X12_arm km_RX12_192 (r_X12_arm (l := l) (g := g) a0 y19 v1 μ20 hU17 e_r24) hU17.1 hU17.2.2.1 rfl (by decide) rfl (Nat.le_of_ble_eq_true rfl) (Nat.le_of_ble_eq_true rfl) (Nat.le_of_ble_eq_true rfl) (Nat.le_of_ble_eq_true rfl) (Nat.le_refl _) rfl rfl dX12_listOf_78 ?_
      refine z_imul C0 dX12_listOf_81 ?_
      refine z_iadd C0 dX12_listOf_82 ?_
      obtain ⟨x25, e_x25, h⟩ := zl_of h
      refine z_nm e_x25 ?_
      refine z_istore_n (lo1 := [(2, .int x25), (0, .ref (zb g + a0)), (1, .int v1), (3, .int y19)]) C0 dX12_listOf_83 rfl (by decide) rfl ?_
      obtain ⟨x26, e_x26, h⟩ := zl_of h
      refine z_iinc (lo1 := [(3, .int x26), (2, .int x25), (0, .ref (zb g + a0)), (1, .int v1)]) C0 dX12_listOf_84 3 rfl (by decide) e_x26.symm (by decide) rfl ?_
      refine z_goto C0 60 dX12_listOf_87 (by decide) ?_
      refine z_sub (lo1 := [(0, .ref (zb g + a0)), (1, .int v1), (2, .int x25), (3, .int x26)]) [2, 3, 1, 0] rfl ?_
      exact ih _ _ _ h kx
set_option maxHeartbeats 4000000 in
set_option maxRecDepth 100000 in
theorem r_X12_listOf {l : Launch} {g : zL} (a0 : Nat) (v1 : Int32) (μ : zM) (hT0 : zT zNN zσ1 a0 12) {rv : Int32} (h : f_X12_listOf a0 v1 μ = some rv) : zMet l g yX12_listOf cX12_listOf 4 (some (.int)) 3 0 0 zNN zNN zσ1 zσ1 [.ref (zb g + a0), .int v1] μ (some (.int rv)) μ := by
  refine zMet.of (by decide +kernel) (Nat.le_of_ble_eq_true rfl) ?_
  intro p e s m args below meth c C0
  refine z_loc (lo1 := [(0, .ref (zb g + a0)), (1, .int v1)]) rfl ?_
  unfold f_X12_listOf at h
  refine z_aload_n C0 dX12_listOf_0 rfl 0 rfl ?_
  refine z_iload_n C0 dX12_listOf_1 rfl 1 rfl ?_
  refine z_iconst (v := (-1 : Int32)) C0 dX12_listOf_2 (by decide) ?_
  obtain ⟨r1, e_r1, h⟩ := zbd_of h
  refine z_callV (As := [.int v1, .int (-1 : Int32)]) (rest := []) C0 rfl kc_X12_gravesList km_RX12_254 (r_X12_gravesList (l := l) (g := g) a0 v1 (-1 : Int32) μ hT0 e_r1) hT0.1 hT0.2.2.1 rfl (by decide) rfl (Nat.le_of_ble_eq_true rfl) (Nat.le_of_ble_eq_true rfl) (Nat.le_of_ble_eq_true rfl) (Nat.le_of_ble_eq_true rfl) (Nat.le_refl _) rfl rfl dX12_listOf_3 ?_
  refine z_istore_n (lo1 := [(2, .int r1), (0, .ref (zb g + a0)), (1, .int v1)]) C0 dX12_listOf_6 rfl (by decide) rfl ?_
  refine z_iconst (v := (0 : Int32)) C0 dX12_listOf_7 (by decide) ?_
  refine z_istore_n (lo1 := [(3, .int (0 : Int32)), (2, .int r1), (0, .ref (zb g + a0)), (1, .int v1)]) C0 dX12_listOf_8 rfl (by decide) rfl ?_
  refine z_sub (lo1 := [(0, .ref (zb g + a0)), (1, .int v1), (2, .int r1), (3, .int (0 : Int32))]) [2, 3, 1, 0] rfl ?_
  obtain ⟨x16, e_x16, h⟩ := zbd_of h
  refine r_X12_listOf_L9 C0 a0 v1 μ hT0 zFU r1 (0 : Int32) x16 e_x16 ?_
  refine z_iconst (v := (0 : Int32)) C0 dX12_listOf_58 (by decide) ?_
  refine z_istore_n (lo1 := [(3, .int (0 : Int32)), (0, .ref (zb g + a0)), (1, .int v1), (2, .int x16)]) C0 dX12_listOf_59 rfl (by decide) rfl ?_
  refine z_sub (lo1 := [(0, .ref (zb g + a0)), (1, .int v1), (2, .int x16), (3, .int (0 : Int32))]) [1, 2, 3, 0] rfl ?_
  obtain ⟨x27, e_x27, h⟩ := zbd_of h
  refine r_X12_listOf_L60 C0 a0 v1 μ hT0 zFU x16 (0 : Int32) x27 e_x27 ?_
  refine z_iload_n C0 dX12_listOf_90 rfl 0 rfl ?_
  have h := Option.some.inj h
  obtain rfl := h
  exact z_iret C0 rfl dX12_listOf_91
def f_X12_size (v0 : Int32) : Int32 :=
  zl (if 0 ≤ v0 then
      v0
    else
      (-v0)) fun x3 =>
  x3
set_option maxHeartbeats 4000000 in
set_option maxRecDepth 100000 in
theorem r_X12_size {l : Launch} {g : zL} (v0 : Int32) {μ : zM}  {rv : Int32} (h : f_X12_size v0 = rv) : zMet l g yX12_size cX12_size 1 (some (.int)) 0 0 0 zNN zNN zσ1 zσ1 [.int v0] μ (some (.int rv)) μ := by
  refine zMet.of (by decide +kernel) (Nat.le_of_ble_eq_true rfl) ?_
  intro p e s m args below meth c C0
  refine z_loc (lo1 := [(0, .int v0)]) rfl ?_
  unfold f_X12_size at h
  refine z_iload_n C0 dX12_size_0 rfl 0 rfl ?_
  obtain ⟨x3, e_x3, h⟩ := zl_of h
  refine z_join μ 10 [] [.int x3] ?_ (fun k_J2 => ?_)
  · skip
    obtain rfl := h
    exact z_iret C0 rfl dX12_size_10
  · have h := e_x3.symm
    refine z_if_ge C0 9 dX12_size_1 (by decide) (fun c1 => ?_) (fun c1 => ?_)
    · have h := zif_t c1 h
      refine z_iload_n C0 dX12_size_9 rfl 0 rfl ?_
      refine z_sub (lo1 := []) [] rfl ?_
      obtain rfl := h
      exact k_J2
    · have h := zif_f c1 h
      refine z_iload_n C0 dX12_size_4 rfl 0 rfl ?_
      refine z_ineg C0 dX12_size_5 ?_
      refine z_goto C0 10 dX12_size_6 (by decide) ?_
      refine z_sub (lo1 := []) [] rfl ?_
      obtain rfl := h
      exact k_J2
def f_X12_sign (v0 : Int32) : Int32 :=
  zl (if v0 ≤ 0 then
      if 0 ≤ v0 then
        (0 : Int32)
      else
        (-1 : Int32)
    else
      (1 : Int32)) fun x5 =>
  x5
set_option maxHeartbeats 4000000 in
set_option maxRecDepth 100000 in
theorem r_X12_sign {l : Launch} {g : zL} (v0 : Int32) {μ : zM}  {rv : Int32} (h : f_X12_sign v0 = rv) : zMet l g yX12_sign cX12_sign 1 (some (.int)) 0 0 0 zNN zNN zσ1 zσ1 [.int v0] μ (some (.int rv)) μ := by
  refine zMet.of (by decide +kernel) (Nat.le_of_ble_eq_true rfl) ?_
  intro p e s m args below meth c C0
  refine z_loc (lo1 := [(0, .int v0)]) rfl ?_
  unfold f_X12_sign at h
  refine z_iload_n C0 dX12_sign_0 rfl 0 rfl ?_
  obtain ⟨x5, e_x5, h⟩ := zl_of h
  refine z_join μ 17 [] [.int x5] ?_ (fun k_J3 => ?_)
  · skip
    obtain rfl := h
    exact z_iret C0 rfl dX12_sign_17
  · have h := e_x5.symm
    refine z_if_le C0 8 dX12_sign_1 (by decide) (fun c1 => ?_) (fun c1 => ?_)
    · have h := zif_t c1 h
      refine z_iload_n C0 dX12_sign_8 rfl 0 rfl ?_
      refine z_if_ge C0 16 dX12_sign_9 (by decide) (fun c4 => ?_) (fun c4 => ?_)
      · have h := zif_t c4 h
        refine z_iconst (v := (0 : Int32)) C0 dX12_sign_16 (by decide) ?_
        refine z_sub (lo1 := []) [] rfl ?_
        obtain rfl := h
        exact k_J3
      · have h := zif_f c4 h
        refine z_iconst (v := (-1 : Int32)) C0 dX12_sign_12 (by decide) ?_
        refine z_goto C0 17 dX12_sign_13 (by decide) ?_
        refine z_sub (lo1 := []) [] rfl ?_
        obtain rfl := h
        exact k_J3
    · have h := zif_f c1 h
      refine z_iconst (v := (1 : Int32)) C0 dX12_sign_4 (by decide) ?_
      refine z_goto C0 17 dX12_sign_5 (by decide) ?_
      refine z_sub (lo1 := []) [] rfl ?_
      obtain rfl := h
      exact k_J3
def f_X12_lean (a0 : Nat) (v1 : Int32) (μ : zM) : Option (Int32) :=
  zbd (f_X12_of a0 (6 : Int32) μ) fun r1 =>
  zl (if (f_X12_size v1) ≤ r1 then
      (0 : Int32)
    else
      (f_X12_sign v1)) fun x4 =>
  some x4
set_option maxHeartbeats 4000000 in
set_option maxRecDepth 100000 in
theorem r_X12_lean {l : Launch} {g : zL} (a0 : Nat) (v1 : Int32) (μ : zM) (hT0 : zT zNN zσ1 a0 12) {rv : Int32} (h : f_X12_lean a0 v1 μ = some rv) : zMet l g yX12_lean cX12_lean 2 (some (.int)) 1 0 0 zNN zNN zσ1 zσ1 [.ref (zb g + a0), .int v1] μ (some (.int rv)) μ := by
  refine zMet.of (by decide +kernel) (Nat.le_of_ble_eq_true rfl) ?_
  intro p e s m args below meth c C0
  refine z_loc (lo1 := [(0, .ref (zb g + a0)), (1, .int v1)]) rfl ?_
  unfold f_X12_lean at h
  refine z_iload_n C0 dX12_lean_0 rfl 1 rfl ?_
  refine z_callS (As := [.int v1]) (rest := []) C0 rfl kc_X12_size km_RX12_195 (r_X12_size (l := l) (g := g) (μ := μ) v1 rfl) rfl (Nat.le_of_ble_eq_true rfl) (Nat.le_of_ble_eq_true rfl) (Nat.le_of_ble_eq_true rfl) (Nat.le_of_ble_eq_true rfl) (Nat.le_refl _) rfl rfl dX12_lean_1 ?_
  refine z_aload_n C0 dX12_lean_4 rfl 0 rfl ?_
  refine z_bipush (v := (6 : Int32)) C0 dX12_lean_5 (by decide) ?_
  obtain ⟨r1, e_r1, h⟩ := zbd_of h
  refine z_callV (As := [.int (6 : Int32)]) (rest := [.int (f_X12_size v1)]) C0 rfl kc_X12_of km_RX12_180 (r_X12_of (l := l) (g := g) a0 (6 : Int32) μ hT0 e_r1) hT0.1 hT0.2.2.1 rfl (by decide) rfl (Nat.le_of_ble_eq_true rfl) (Nat.le_of_ble_eq_true rfl) (Nat.le_of_ble_eq_true rfl) (Nat.le_of_ble_eq_true rfl) (Nat.le_refl _) rfl rfl dX12_lean_7 ?_
  obtain ⟨x4, e_x4, h⟩ := zl_of h
  refine z_join μ 21 [] [.int x4] ?_ (fun k_J3 => ?_)
  · have h := Option.some.inj h
    obtain rfl := h
    exact z_iret C0 rfl dX12_lean_21
  · have h := e_x4.symm
    refine z_icmp_le C0 20 dX12_lean_10 (by decide) (fun c2 => ?_) (fun c2 => ?_)
    · have h := zif_t c2 h
      refine z_iconst (v := (0 : Int32)) C0 dX12_lean_20 (by decide) ?_
      refine z_sub (lo1 := []) [] rfl ?_
      obtain rfl := h
      exact k_J3
    · have h := zif_f c2 h
      refine z_iload_n C0 dX12_lean_13 rfl 1 rfl ?_
      refine z_callS (As := [.int v1]) (rest := []) C0 rfl kc_X12_sign km_RX12_197 (r_X12_sign (l := l) (g := g) (μ := μ) v1 rfl) rfl (Nat.le_of_ble_eq_true rfl) (Nat.le_of_ble_eq_true rfl) (Nat.le_of_ble_eq_true rfl) (Nat.le_of_ble_eq_true rfl) (Nat.le_refl _) rfl rfl dX12_lean_14 ?_
      refine z_goto C0 21 dX12_lean_17 (by decide) ?_
      refine z_sub (lo1 := []) [] rfl ?_
      obtain rfl := h
      exact k_J3
def f_X12_driftOf (a0 : Nat) (v1 : Int32) (μ : zM) : Option (Int32) :=
  zbd (f_X12_listOf a0 v1 μ) fun r1 =>
  zbd (f_X12_lean a0 r1 μ) fun r2 =>
  zbd (f_X12_blown a0 (μ a0 20) (μ a0 21) v1 μ) fun r3 =>
  some (f_X12_sign (r2 + r3))
set_option maxHeartbeats 4000000 in
set_option maxRecDepth 100000 in
theorem r_X12_driftOf {l : Launch} {g : zL} (a0 : Nat) (v1 : Int32) (μ : zM) (hT0 : zT zNN zσ1 a0 12) {rv : Int32} (h : f_X12_driftOf a0 v1 μ = some rv) : zMet l g yX12_driftOf cX12_driftOf 2 (some (.int)) 4 0 0 zNN zNN zσ1 zσ1 [.ref (zb g + a0), .int v1] μ (some (.int rv)) μ := by
  refine zMet.of (by decide +kernel) (Nat.le_of_ble_eq_true rfl) ?_
  intro p e s m args below meth c C0
  refine z_loc (lo1 := [(0, .ref (zb g + a0)), (1, .int v1)]) rfl ?_
  unfold f_X12_driftOf at h
  refine z_aload_n C0 dX12_driftOf_0 rfl 0 rfl ?_
  refine z_aload_n C0 dX12_driftOf_1 rfl 0 rfl ?_
  refine z_iload_n C0 dX12_driftOf_2 rfl 1 rfl ?_
  obtain ⟨r1, e_r1, h⟩ := zbd_of h
  refine z_callV (As := [.int v1]) (rest := [.ref (zb g + a0)]) C0 rfl kc_X12_listOf km_RX12_260 (r_X12_listOf (l := l) (g := g) a0 v1 μ hT0 e_r1) hT0.1 hT0.2.2.1 rfl (by decide) rfl (Nat.le_of_ble_eq_true rfl) (Nat.le_of_ble_eq_true rfl) (Nat.le_of_ble_eq_true rfl) (Nat.le_of_ble_eq_true rfl) (Nat.le_refl _) rfl rfl dX12_driftOf_3 ?_
  obtain ⟨r2, e_r2, h⟩ := zbd_of h
  refine z_callV (As := [.int r1]) (rest := []) C0 rfl kc_X12_lean km_RX12_263 (r_X12_lean (l := l) (g := g) a0 r1 μ hT0 e_r2) hT0.1 hT0.2.2.1 rfl (by decide) rfl (Nat.le_of_ble_eq_true rfl) (Nat.le_of_ble_eq_true rfl) (Nat.le_of_ble_eq_true rfl) (Nat.le_of_ble_eq_true rfl) (Nat.le_refl _) rfl rfl dX12_driftOf_6 ?_
  refine z_aload_n C0 dX12_driftOf_9 rfl 0 rfl ?_
  refine z_aload_n C0 dX12_driftOf_10 rfl 0 rfl ?_
  refine z_geti C0 hT0.1 hT0.2.2.1 kf_12_245 zr_12_20 dX12_driftOf_11 ?_
  refine z_aload_n C0 dX12_driftOf_14 rfl 0 rfl ?_
  refine z_geti C0 hT0.1 hT0.2.2.1 kf_12_248 zr_12_21 dX12_driftOf_15 ?_
  refine z_iload_n C0 dX12_driftOf_18 rfl 1 rfl ?_
  obtain ⟨r3, e_r3, h⟩ := zbd_of h
  refine z_callV (As := [.int (μ a0 20), .int (μ a0 21), .int v1]) (rest := [.int r2]) C0 rfl kc_X12_blown km_RX12_266 (r_X12_blown (l := l) (g := g) a0 (μ a0 20) (μ a0 21) v1 μ hT0 e_r3) hT0.1 hT0.2.2.1 rfl (by decide) rfl (Nat.le_of_ble_eq_true rfl) (Nat.le_of_ble_eq_true rfl) (Nat.le_of_ble_eq_true rfl) (Nat.le_of_ble_eq_true rfl) (Nat.le_refl _) rfl rfl dX12_driftOf_19 ?_
  refine z_iadd C0 dX12_driftOf_22 ?_
  refine z_callS (As := [.int (r2 + r3)]) (rest := []) C0 rfl kc_X12_sign km_RX12_197 (r_X12_sign (l := l) (g := g) (μ := μ) (r2 + r3) rfl) rfl (Nat.le_of_ble_eq_true rfl) (Nat.le_of_ble_eq_true rfl) (Nat.le_of_ble_eq_true rfl) (Nat.le_of_ble_eq_true rfl) (Nat.le_refl _) rfl rfl dX12_driftOf_23 ?_
  have h := Option.some.inj h
  obtain rfl := h
  exact z_iret C0 rfl dX12_driftOf_26
def f_X12_leaks_L2 (a0 : Nat) : Nat → Int32 → zM → Option (zM)
  | 0, _, _ => none
  | n + 1, y2, μ3 =>
    zbd (f_X12_of a0 (15 : Int32) μ3) fun r4 =>
    if r4 ≤ y2 then
      some μ3
    else
      zbd (f_X12_of a0 ((101 : Int32) + ((2 : Int32) * y2)) μ3) fun r6 =>
      zg (zin r6 16) <|
      zbd (f_X12_of a0 (((101 : Int32) + ((2 : Int32) * y2)) + (1 : Int32)) μ3) fun r8 =>
      zl (zup μ3 (a0 + 5) (r6.toNatClampNeg) ((μ3 (a0 + 5) (r6.toNatClampNeg)) + r8)) fun μ9 =>
      zl (y2 + (1 : Int32)) fun x10 =>
      f_X12_leaks_L2 a0 n x10 μ9
def f_X12_leaks (a0 : Nat) (μ : zM) : Option (zM) :=
  zbd (f_X12_leaks_L2 a0 zFU (0 : Int32) μ) fun μ11 =>
  zbd (zbd (if ¬ (μ11 a0 17) = 0 then
        some false
      else
        zbd (f_X12_allWater a0 μ11) fun r15 =>
        zbd (f_X12_of a0 (8 : Int32) μ11) fun r16 =>
        if r15 ≤ r16 then
          some true
        else
          some false) fun b18 =>
    if b18 = true then
      some (0 : Int32)
    else
      some (1 : Int32)) fun x20 =>
  zg (z01 x20) <|
  zl (zup μ11 a0 17 x20) fun μ22 =>
  some μ22
set_option maxHeartbeats 4000000 in
set_option maxRecDepth 100000 in
theorem r_X12_leaks_L2 {l : Launch} {g : zL} {p : Program} {e : Env} {s : State} {m : MethodId} {args : Array Value} {below : List Frame} {meth : Method} {c : Code} {Q : State → Prop} (C0 : zC p s m args meth c g cX12_leaks yX12_leaks 2 none) (a0 : Nat) (hU1 : zT zNN zσ1 a0 12) : ∀ (n : Nat) (y2 : Int32) (μ3 : zM) (μ11 : zM), f_X12_leaks_L2 a0 n y2 μ3 = some μ11 → Z p l e (zrm 1 0 0) s m args below meth c g Q 2 zNN 0 0 zσ1 μ11 48 [(0, .ref (zb g + a0))] [] → Z p l e (zrm 1 0 0) s m args below meth c g Q 2 zNN 0 0 zσ1 μ3 2 [(0, .ref (zb g + a0)), (1, .int y2)] [] := by
  intro n
  induction n with
  | zero =>
    intro y2 μ3 μ11 h kx
    rw [f_X12_leaks_L2] at h
    cases h
  | succ n ih =>
    intro y2 μ3 μ11 h kx
    rw [f_X12_leaks_L2] at h
    refine z_iload_n C0 dX12_leaks_2 rfl 1 rfl ?_
    refine z_aload_n C0 dX12_leaks_3 rfl 0 rfl ?_
    refine z_bipush (v := (15 : Int32)) C0 dX12_leaks_4 (by decide) ?_
    obtain ⟨r4, e_r4, h⟩ := zbd_of h
    refine z_callV (As := [.int (15 : Int32)]) (rest := [.int y2]) C0 rfl kc_X12_of km_RX12_180 (r_X12_of (l := l) (g := g) a0 (15 : Int32) μ3 hU1 e_r4) hU1.1 hU1.2.2.1 rfl (by decide) rfl (Nat.le_of_ble_eq_true rfl) (Nat.le_of_ble_eq_true rfl) (Nat.le_of_ble_eq_true rfl) (Nat.le_of_ble_eq_true rfl) (Nat.le_refl _) rfl rfl dX12_leaks_6 ?_
    refine z_icmp_ge C0 48 dX12_leaks_9 (by decide) (fun c5 => ?_) (fun c5 => ?_)
    · have h := zif_t c5 h
      refine z_sub (lo1 := [(0, .ref (zb g + a0))]) [0] rfl ?_
      obtain rfl := (Option.some.inj h)
      exact kx
    · have h := zif_f c5 h
      refine z_aload_n C0 dX12_leaks_12 rfl 0 rfl ?_
      refine z_getr C0 hU1 kf_12_23 zr_12_24 zx_12 (zs_12_24 hU1).1 dX12_leaks_13 ?_
      refine z_aload_n C0 dX12_leaks_16 rfl 0 rfl ?_
      refine z_bipush (v := (101 : Int32)) C0 dX12_leaks_17 (by decide) ?_
      refine z_iconst (v := (2 : Int32)) C0 dX12_leaks_19 (by decide) ?_
      refine z_iload_n C0 dX12_leaks_20 rfl 1 rfl ?_
      refine z_imul C0 dX12_leaks_21 ?_
      refine z_iadd C0 dX12_leaks_22 ?_
      obtain ⟨r6, e_r6, h⟩ := zbd_of h
      refine z_callV (As := [.int ((101 : Int32) + ((2 : Int32) * y2))]) (rest := [.ref (zb g + (a0 + 5))]) C0 rfl kc_X12_of km_RX12_180 (r_X12_of (l := l) (g := g) a0 ((101 : Int32) + ((2 : Int32) * y2)) μ3 hU1 e_r6) hU1.1 hU1.2.2.1 rfl (by decide) rfl (Nat.le_of_ble_eq_true rfl) (Nat.le_of_ble_eq_true rfl) (Nat.le_of_ble_eq_true rfl) (Nat.le_of_ble_eq_true rfl) (Nat.le_refl _) rfl rfl dX12_leaks_23 ?_
      refine z_dup2 C0 dX12_leaks_26 rfl rfl ?_
      obtain ⟨g7, h⟩ := zg_of h
      refine z_iald C0 (zs_12_24 hU1).2 g7 rfl dX12_leaks_27 ?_
      refine z_aload_n C0 dX12_leaks_28 rfl 0 rfl ?_
      refine z_bipush (v := (101 : Int32)) C0 dX12_leaks_29 (by decide) ?_
      refine z_iconst (v := (2 : Int32)) C0 dX12_leaks_31 (by decide) ?_
      refine z_iload_n C0 dX12_leaks_32 rfl 1 rfl ?_
      refine z_imul C0 dX12_leaks_33 ?_
      refine z_iadd C0 dX12_leaks_34 ?_
      refine z_iconst (v := (1 : Int32)) C0 dX12_leaks_35 (by decide) ?_
      refine z_iadd C0 dX12_leaks_36 ?_
      obtain ⟨r8, e_r8, h⟩ := zbd_of h
      refine z_callV (As := [.int (((101 : Int32) + ((2 : Int32) * y2)) + (1 : Int32))]) (rest := [.int (μ3 (a0 + 5) (r6.toNatClampNeg)), .int r6, .ref (zb g + (a0 + 5))]) C0 rfl kc_X12_of km_RX12_180 (r_X12_of (l := l) (g := g) a0 (((101 : Int32) + ((2 : Int32) * y2)) + (1 : Int32)) μ3 hU1 e_r8) hU1.1 hU1.2.2.1 rfl (by decide) rfl (Nat.le_of_ble_eq_true rfl) (Nat.le_of_ble_eq_true rfl) (Nat.le_of_ble_eq_true rfl) (Nat.le_of_ble_eq_true rfl) (Nat.le_refl _) rfl rfl dX12_leaks_37 ?_
      refine z_iadd C0 dX12_leaks_40 ?_
      obtain ⟨μ9, e_μ9, h⟩ := zl_of h
      refine z_iast C0 (zs_12_24 hU1).2 g7 rfl e_μ9 dX12_leaks_41 ?_
      obtain ⟨x10, e_x10, h⟩ := zl_of h
      refine z_iinc (lo1 := [(1, .int x10), (0, .ref (zb g + a0))]) C0 dX12_leaks_42 1 rfl (by decide) e_x10.symm (by decide) rfl ?_
      refine z_goto C0 2 dX12_leaks_45 (by decide) ?_
      refine z_sub (lo1 := [(0, .ref (zb g + a0)), (1, .int x10)]) [1, 0] rfl ?_
      exact ih _ _ _ h kx
set_option maxHeartbeats 4000000 in
set_option maxRecDepth 100000 in
theorem r_X12_leaks {l : Launch} {g : zL} (a0 : Nat) (μ : zM) (hT0 : zT zNN zσ1 a0 12) {μr : zM} (h : f_X12_leaks a0 μ = some μr) : zMet l g yX12_leaks cX12_leaks 2 none 1 0 0 zNN zNN zσ1 zσ1 [.ref (zb g + a0)] μ none μr := by
  refine zMet.of (by decide +kernel) (Nat.le_of_ble_eq_true rfl) ?_
  intro p e s m args below meth c C0
  refine z_loc (lo1 := [(0, .ref (zb g + a0))]) rfl ?_
  unfold f_X12_leaks at h
  refine z_iconst (v := (0 : Int32)) C0 dX12_leaks_0 (by decide) ?_
  refine z_istore_n (lo1 := [(1, .int (0 : Int32)), (0, .ref (zb g + a0))]) C0 dX12_leaks_1 rfl (by decide) rfl ?_
  refine z_sub (lo1 := [(0, .ref (zb g + a0)), (1, .int (0 : Int32))]) [1, 0] rfl ?_
  obtain ⟨μ11, e_μ11, h⟩ := zbd_of h
  refine r_X12_leaks_L2 C0 a0 hT0 zFU (0 : Int32) μ μ11 e_μ11 ?_
  refine z_aload_n C0 dX12_leaks_48 rfl 0 rfl ?_
  refine z_aload_n C0 dX12_leaks_49 rfl 0 rfl ?_
  refine z_geti C0 hT0.1 hT0.2.2.1 kf_12_236 zr_12_17 dX12_leaks_50 ?_
  obtain ⟨x20, e_x20, h⟩ := zbd_of h
  refine z_join μ11 74 [] [.int x20, .ref (zb g + a0)] ?_ (fun k_J19 => ?_)
  · obtain ⟨g21, h⟩ := zg_of h
    obtain ⟨μ22, e_μ22, h⟩ := zl_of h
    refine z_putb C0 hT0.1 hT0.2.2.1 kf_12_236 zp_12_17 zr_12_17 g21 e_μ22 dX12_leaks_74 ?_
    have h := Option.some.inj h
    obtain rfl := h
    exact z_vret C0 rfl dX12_leaks_77
  · have h := e_x20
    obtain ⟨b18, e_b18, h⟩ := zbd_of h
    refine z_joinb b18 μ11 73 69 [(0, .ref (zb g + a0))] [.ref (zb g + a0)] (fun z25 => ?_) (fun z25 => ?_) (fun k23 k24 => ?_)
    · have h := zif_t z25 h
      refine z_iconst (v := (0 : Int32)) C0 dX12_leaks_73 (by decide) ?_
      refine z_sub (lo1 := []) [] rfl ?_
      obtain rfl := (Option.some.inj h)
      exact k_J19
    · have h := zif_f (fun q => Bool.noConfusion (z25.symm.trans q)) h
      refine z_iconst (v := (1 : Int32)) C0 dX12_leaks_69 (by decide) ?_
      refine z_goto C0 74 dX12_leaks_70 (by decide) ?_
      refine z_sub (lo1 := []) [] rfl ?_
      obtain rfl := (Option.some.inj h)
      exact k_J19
    · have h := e_b18
      refine z_if_ne C0 69 dX12_leaks_53 (by decide) (fun c12 => ?_) (fun c12 => ?_)
      · have h := zif_t c12 h
        exact k24 (Option.some.inj h).symm
      · have h := zif_f (fun q => q c12) h
        refine z_aload_n C0 dX12_leaks_56 rfl 0 rfl ?_
        obtain ⟨r15, e_r15, h⟩ := zbd_of h
        refine z_callV (As := []) (rest := [.ref (zb g + a0)]) C0 rfl kc_X12_allWater km_RX12_273 (r_X12_allWater (l := l) (g := g) a0 μ11 hT0 e_r15) hT0.1 hT0.2.2.1 rfl (by decide) rfl (Nat.le_of_ble_eq_true rfl) (Nat.le_of_ble_eq_true rfl) (Nat.le_of_ble_eq_true rfl) (Nat.le_of_ble_eq_true rfl) (Nat.le_refl _) rfl rfl dX12_leaks_57 ?_
        refine z_aload_n C0 dX12_leaks_60 rfl 0 rfl ?_
        refine z_bipush (v := (8 : Int32)) C0 dX12_leaks_61 (by decide) ?_
        obtain ⟨r16, e_r16, h⟩ := zbd_of h
        refine z_callV (As := [.int (8 : Int32)]) (rest := [.int r15, .ref (zb g + a0)]) C0 rfl kc_X12_of km_RX12_180 (r_X12_of (l := l) (g := g) a0 (8 : Int32) μ11 hT0 e_r16) hT0.1 hT0.2.2.1 rfl (by decide) rfl (Nat.le_of_ble_eq_true rfl) (Nat.le_of_ble_eq_true rfl) (Nat.le_of_ble_eq_true rfl) (Nat.le_of_ble_eq_true rfl) (Nat.le_refl _) rfl rfl dX12_leaks_63 ?_
        refine z_icmp_le C0 73 dX12_leaks_66 (by decide) (fun c17 => ?_) (fun c17 => ?_)
        · have h := zif_t c17 h
          exact k23 (Option.some.inj h).symm
        · have h := zif_f c17 h
          exact k24 (Option.some.inj h).symm
def f_X12_hour (a0 : Nat) (v1 : Int32) (μ : zM) : Option (zM) :=
  if (μ a0 17) = 0 then
    zl (zup μ a0 14 ((μ a0 14) + (1 : Int32))) fun μ2 =>
    zbd (if ((μ2 a0 18) = 0) ∧ ((μ2 a0 19) = 0) then
        zbd (f_X12_driftOf a0 (0 : Int32) μ2) fun r6 =>
        zbd (f_X12_driftOf a0 (1 : Int32) μ2) fun r7 =>
        zbd (f_X12_moves a0 r6 r7 μ2) fun μ8 =>
        some μ8
      else
        some μ2) fun μ9 =>
    zbd (if v1 = 0 then
        some μ9
      else
        zbd (f_X12_leaks a0 μ9) fun μ12 =>
        some μ12) fun μ13 =>
    zbd (f_X12_sidesAt a0 (μ13 a0 12) (μ13 a0 13) μ13) fun r14 =>
    zl (zup μ13 a0 16 ((μ13 a0 16) ||| r14)) fun μ15 =>
    some μ15
  else
    some μ
set_option maxHeartbeats 4000000 in
set_option maxRecDepth 100000 in
theorem r_X12_hour {l : Launch} {g : zL} (a0 : Nat) (v1 : Int32) (μ : zM) (hT0 : zT zNN zσ1 a0 12) {μr : zM} (h : f_X12_hour a0 v1 μ = some μr) : zMet l g yX12_hour cX12_hour 4 none 5 0 0 zNN zNN zσ1 zσ1 [.ref (zb g + a0), .int v1] μ none μr := by
  refine zMet.of (by decide +kernel) (Nat.le_of_ble_eq_true rfl) ?_
  intro p e s m args below meth c C0
  refine z_loc (lo1 := [(0, .ref (zb g + a0)), (1, .int v1)]) rfl ?_
  unfold f_X12_hour at h
  refine z_aload_n C0 dX12_hour_0 rfl 0 rfl ?_
  refine z_geti C0 hT0.1 hT0.2.2.1 kf_12_236 zr_12_17 dX12_hour_1 ?_
  refine z_if_eq C0 8 dX12_hour_4 (by decide) (fun c1 => ?_) (fun c1 => ?_)
  · have h := zif_t c1 h
    refine z_aload_n C0 dX12_hour_8 rfl 0 rfl ?_
    refine z_dup C0 dX12_hour_9 rfl ?_
    refine z_geti C0 hT0.1 hT0.2.2.1 kf_12_224 zr_12_14 dX12_hour_10 ?_
    refine z_iconst (v := (1 : Int32)) C0 dX12_hour_13 (by decide) ?_
    refine z_iadd C0 dX12_hour_14 ?_
    obtain ⟨μ2, e_μ2, h⟩ := zl_of h
    refine z_puti C0 hT0.1 hT0.2.2.1 kf_12_224 zp_12_14 zr_12_14 e_μ2 dX12_hour_15 ?_
    refine z_aload_n C0 dX12_hour_18 rfl 0 rfl ?_
    refine z_geti C0 hT0.1 hT0.2.2.1 kf_12_239 zr_12_18 dX12_hour_19 ?_
    obtain ⟨μ9, e_μ9, h⟩ := zbd_of h
    refine z_join μ9 50 [(0, .ref (zb g + a0)), (1, .int v1)] [] ?_ (fun k_J5 => ?_)
    · refine z_iload_n C0 dX12_hour_50 rfl 1 rfl ?_
      obtain ⟨μ13, e_μ13, h⟩ := zbd_of h
      refine z_join μ13 58 [(0, .ref (zb g + a0))] [] ?_ (fun k_J11 => ?_)
      · refine z_aload_n C0 dX12_hour_58 rfl 0 rfl ?_
        refine z_dup C0 dX12_hour_59 rfl ?_
        refine z_geti C0 hT0.1 hT0.2.2.1 kf_12_233 zr_12_16 dX12_hour_60 ?_
        refine z_aload_n C0 dX12_hour_63 rfl 0 rfl ?_
        refine z_aload_n C0 dX12_hour_64 rfl 0 rfl ?_
        refine z_geti C0 hT0.1 hT0.2.2.1 kf_12_218 zr_12_12 dX12_hour_65 ?_
        refine z_aload_n C0 dX12_hour_68 rfl 0 rfl ?_
        refine z_geti C0 hT0.1 hT0.2.2.1 kf_12_221 zr_12_13 dX12_hour_69 ?_
        obtain ⟨r14, e_r14, h⟩ := zbd_of h
        refine z_callV (As := [.int (μ13 a0 12), .int (μ13 a0 13)]) (rest := [.int (μ13 a0 16), .ref (zb g + a0)]) C0 rfl kc_X12_sidesAt km_RX12_230 (r_X12_sidesAt (l := l) (g := g) a0 (μ13 a0 12) (μ13 a0 13) μ13 hT0 e_r14) hT0.1 hT0.2.2.1 rfl (by decide) rfl (Nat.le_of_ble_eq_true rfl) (Nat.le_of_ble_eq_true rfl) (Nat.le_of_ble_eq_true rfl) (Nat.le_of_ble_eq_true rfl) (Nat.le_refl _) rfl rfl dX12_hour_72 ?_
        refine z_ior C0 dX12_hour_75 ?_
        obtain ⟨μ15, e_μ15, h⟩ := zl_of h
        refine z_puti C0 hT0.1 hT0.2.2.1 kf_12_233 zp_12_16 zr_12_16 e_μ15 dX12_hour_76 ?_
        have h := Option.some.inj h
        obtain rfl := h
        exact z_vret C0 rfl dX12_hour_79
      · have h := e_μ13
        refine z_if_eq C0 58 dX12_hour_51 (by decide) (fun c10 => ?_) (fun c10 => ?_)
        · have h := zif_t c10 h
          refine z_sub (lo1 := [(0, .ref (zb g + a0))]) [0] rfl ?_
          obtain rfl := (Option.some.inj h)
          exact k_J11
        · have h := zif_f c10 h
          refine z_aload_n C0 dX12_hour_54 rfl 0 rfl ?_
          obtain ⟨μ12, e_μ12, h⟩ := zbd_of h
          refine z_callV (As := []) (rest := []) C0 rfl kc_X12_leaks km_RX12_282 (r_X12_leaks (l := l) (g := g) a0 μ9 hT0 e_μ12) hT0.1 hT0.2.2.1 rfl (by decide) rfl (Nat.le_of_ble_eq_true rfl) (Nat.le_of_ble_eq_true rfl) (Nat.le_of_ble_eq_true rfl) (Nat.le_of_ble_eq_true rfl) (Nat.le_refl _) rfl rfl dX12_hour_55 ?_
          refine z_sub (lo1 := [(0, .ref (zb g + a0))]) [0] rfl ?_
          obtain rfl := (Option.some.inj h)
          exact k_J11
    · have h := e_μ9
      by_cases hc16 : ((μ2 a0 18) = 0) ∧ ((μ2 a0 19) = 0)
      · have h := zif_t hc16 h
        refine z_join μ2 32 [(0, .ref (zb g + a0)), (1, .int v1)] [] ?_ (fun k17 => ?_)
        · refine z_aload_n C0 dX12_hour_32 rfl 0 rfl ?_
          refine z_iconst (v := (0 : Int32)) C0 dX12_hour_33 (by decide) ?_
          obtain ⟨r6, e_r6, h⟩ := zbd_of h
          refine z_callV (As := [.int (0 : Int32)]) (rest := []) C0 rfl kc_X12_driftOf km_RX12_276 (r_X12_driftOf (l := l) (g := g) a0 (0 : Int32) μ2 hT0 e_r6) hT0.1 hT0.2.2.1 rfl (by decide) rfl (Nat.le_of_ble_eq_true rfl) (Nat.le_of_ble_eq_true rfl) (Nat.le_of_ble_eq_true rfl) (Nat.le_of_ble_eq_true rfl) (Nat.le_refl _) rfl rfl dX12_hour_34 ?_
          refine z_istore_n (lo1 := [(2, .int r6), (0, .ref (zb g + a0)), (1, .int v1)]) C0 dX12_hour_37 rfl (by decide) rfl ?_
          refine z_aload_n C0 dX12_hour_38 rfl 1 rfl ?_
          refine z_iconst (v := (1 : Int32)) C0 dX12_hour_39 (by decide) ?_
          obtain ⟨r7, e_r7, h⟩ := zbd_of h
          refine z_callV (As := [.int (1 : Int32)]) (rest := []) C0 rfl kc_X12_driftOf km_RX12_276 (r_X12_driftOf (l := l) (g := g) a0 (1 : Int32) μ2 hT0 e_r7) hT0.1 hT0.2.2.1 rfl (by decide) rfl (Nat.le_of_ble_eq_true rfl) (Nat.le_of_ble_eq_true rfl) (Nat.le_of_ble_eq_true rfl) (Nat.le_of_ble_eq_true rfl) (Nat.le_refl _) rfl rfl dX12_hour_40 ?_
          refine z_istore_n (lo1 := [(3, .int r7), (2, .int r6), (0, .ref (zb g + a0)), (1, .int v1)]) C0 dX12_hour_43 rfl (by decide) rfl ?_
          refine z_aload_n C0 dX12_hour_44 rfl 2 rfl ?_
          refine z_iload_n C0 dX12_hour_45 rfl 1 rfl ?_
          refine z_iload_n C0 dX12_hour_46 rfl 0 rfl ?_
          obtain ⟨μ8, e_μ8, h⟩ := zbd_of h
          refine z_callV (As := [.int r6, .int r7]) (rest := []) C0 rfl kc_X12_moves km_RX12_279 (r_X12_moves (l := l) (g := g) a0 r6 r7 μ2 hT0 e_μ8) hT0.1 hT0.2.2.1 rfl (by decide) rfl (Nat.le_of_ble_eq_true rfl) (Nat.le_of_ble_eq_true rfl) (Nat.le_of_ble_eq_true rfl) (Nat.le_of_ble_eq_true rfl) (Nat.le_refl _) rfl rfl dX12_hour_47 ?_
          refine z_sub (lo1 := [(0, .ref (zb g + a0)), (1, .int v1)]) [2, 3] rfl ?_
          obtain rfl := (Option.some.inj h)
          exact k_J5
        · refine z_if_ne C0 50 dX12_hour_22 (by decide) (fun c3 => ?_) (fun c3 => ?_)
          · exact absurd hc16 (fun q => c3 q.1)
          · refine z_aload_n C0 dX12_hour_25 rfl 0 rfl ?_
            refine z_geti C0 hT0.1 hT0.2.2.1 kf_12_242 zr_12_19 dX12_hour_26 ?_
            refine z_if_ne C0 50 dX12_hour_29 (by decide) (fun c4 => ?_) (fun c4 => ?_)
            · exact absurd hc16 (fun q => (fun q => c4 q) q.2)
            · exact k17
      · have h := zif_f hc16 h
        refine z_join μ2 50 [(0, .ref (zb g + a0)), (1, .int v1)] [] ?_ (fun k18 => ?_)
        · obtain rfl := (Option.some.inj h)
          exact k_J5
        · refine z_if_ne C0 50 dX12_hour_22 (by decide) (fun c3 => ?_) (fun c3 => ?_)
          · exact k18
          · refine z_aload_n C0 dX12_hour_25 rfl 0 rfl ?_
            refine z_geti C0 hT0.1 hT0.2.2.1 kf_12_242 zr_12_19 dX12_hour_26 ?_
            refine z_if_ne C0 50 dX12_hour_29 (by decide) (fun c4 => ?_) (fun c4 => ?_)
            · exact k18
            · exact absurd ⟨c3, c4⟩ hc16
  · have h := zif_f c1 h
    have h := Option.some.inj h
    obtain rfl := h
    exact z_vret C0 rfl dX12_hour_7
def f_X12_sightOf (a0 : Nat) (v1 : Int32) (v2 : Int32) (μ : zM) : Option (Int32) :=
  zg (zin ((((μ a0 32) + (1 : Int32)) + ((2 : Int32) * v1)) + v2) 4688) <|
  some (μ (a0 + 1) (((((μ a0 32) + (1 : Int32)) + ((2 : Int32) * v1)) + v2).toNatClampNeg))
set_option maxHeartbeats 4000000 in
set_option maxRecDepth 100000 in
theorem r_X12_sightOf {l : Launch} {g : zL} (a0 : Nat) (v1 : Int32) (v2 : Int32) (μ : zM) (hT0 : zT zNN zσ1 a0 12) {rv : Int32} (h : f_X12_sightOf a0 v1 v2 μ = some rv) : zMet l g yX12_sightOf cX12_sightOf 3 (some (.int)) 0 0 0 zNN zNN zσ1 zσ1 [.ref (zb g + a0), .int v1, .int v2] μ (some (.int rv)) μ := by
  refine zMet.of (by decide +kernel) (Nat.le_of_ble_eq_true rfl) ?_
  intro p e s m args below meth c C0
  refine z_loc (lo1 := [(0, .ref (zb g + a0)), (1, .int v1), (2, .int v2)]) rfl ?_
  unfold f_X12_sightOf at h
  refine z_aload_n C0 dX12_sightOf_0 rfl 0 rfl ?_
  refine z_getr C0 hT0 kf_12_7 zr_12_0 zx_12 (zs_12_0 hT0).1 dX12_sightOf_1 ?_
  refine z_aload_n C0 dX12_sightOf_4 rfl 0 rfl ?_
  refine z_geti C0 hT0.1 hT0.2.2.1 kf_12_366 zr_12_32 dX12_sightOf_5 ?_
  refine z_iconst (v := (1 : Int32)) C0 dX12_sightOf_8 (by decide) ?_
  refine z_iadd C0 dX12_sightOf_9 ?_
  refine z_iconst (v := (2 : Int32)) C0 dX12_sightOf_10 (by decide) ?_
  refine z_iload_n C0 dX12_sightOf_11 rfl 1 rfl ?_
  refine z_imul C0 dX12_sightOf_12 ?_
  refine z_iadd C0 dX12_sightOf_13 ?_
  refine z_iload_n C0 dX12_sightOf_14 rfl 2 rfl ?_
  refine z_iadd C0 dX12_sightOf_15 ?_
  obtain ⟨g1, h⟩ := zg_of h
  refine z_iald C0 (zs_12_0 hT0).2 g1 rfl dX12_sightOf_16 ?_
  have h := Option.some.inj h
  obtain rfl := h
  exact z_iret C0 rfl dX12_sightOf_17
def f_X12_fitting_L8 (a0 : Nat) : Nat → Int32 → Int32 → zM → Option (zM)
  | 0, _, _, _ => none
  | n + 1, y3, y4, μ5 =>
    zbd (f_X12_mourners a0 μ5) fun r6 =>
    if r6 ≤ y4 then
      some μ5
    else
      zg (znz ((μ5 a0 33) + (1 : Int32))) <|
      zbd (if ¬ (y3 % ((μ5 a0 33) + (1 : Int32))) = (μ5 a0 33) then
          zg (zin (y3 % ((μ5 a0 33) + (1 : Int32))) 5) <|
          some (μ5 (a0 + 12) ((y3 % ((μ5 a0 33) + (1 : Int32))).toNatClampNeg))
        else
          some (-1 : Int32)) fun x12 =>
      zg (zin y4 5) <|
      zl (zup μ5 (a0 + 4) (y4.toNatClampNeg) x12) fun μ14 =>
      zg (znz ((μ14 a0 33) + (1 : Int32))) <|
      zl (y3 / ((μ14 a0 33) + (1 : Int32))) fun x16 =>
      zl (y4 + (1 : Int32)) fun x17 =>
      f_X12_fitting_L8 a0 n x16 x17 μ14
def f_X12_fitting_L74 (a0 : Nat) : Nat → Int32 → Int32 → zM → Option (Int32 × zM)
  | 0, _, _, _ => none
  | n + 1, y20, y21, μ22 =>
    zbd (if y21 = 0 then
        some false
      else
        zbd (f_X12_sights a0 μ22) fun r25 =>
        if r25 ≤ y20 then
          some false
        else
          some true) fun b27 =>
    if b27 = true then
      zbd (f_X12_hour a0 (0 : Int32) μ22) fun μ28 =>
      zbd (f_X12_sightOf a0 y20 (0 : Int32) μ28) fun r29 =>
      zbd (zbd (if ¬ (μ28 a0 12) = r29 then
            some false
          else
            zbd (f_X12_sightOf a0 y20 (1 : Int32) μ28) fun r32 =>
            if ¬ (μ28 a0 13) = r32 then
              some false
            else
              some true) fun b34 =>
        if b34 = true then
          some (1 : Int32)
        else
          some (0 : Int32)) fun x36 =>
      zl (if x36 = 0 then
          (0 : Int32)
        else
          (1 : Int32)) fun x39 =>
      zl (y20 + x39) fun x40 =>
      f_X12_fitting_L74 a0 n x40 x36 μ28
    else
      some (y20, μ22)
def f_X12_fitting (a0 : Nat) (v1 : Int32) (μ : zM) : Option (Int32 × zM) :=
  zbd (f_X12_begins a0 μ) fun μ1 =>
  zbd (f_X12_fitting_L8 a0 zFU v1 (0 : Int32) μ1) fun μ18 =>
  zbd2 (f_X12_fitting_L74 a0 zFU (0 : Int32) (1 : Int32) μ18) fun x41 μ42 =>
  some (x41, μ42)
set_option maxHeartbeats 4000000 in
set_option maxRecDepth 100000 in
theorem r_X12_fitting_L8 {l : Launch} {g : zL} {p : Program} {e : Env} {s : State} {m : MethodId} {args : Array Value} {below : List Frame} {meth : Method} {c : Code} {Q : State → Prop} (C0 : zC p s m args meth c g cX12_fitting yX12_fitting 5 (some (.int))) (a0 : Nat) (hU2 : zT zNN zσ1 a0 12) : ∀ (n : Nat) (y3 : Int32) (y4 : Int32) (μ5 : zM) (μ18 : zM), f_X12_fitting_L8 a0 n y3 y4 μ5 = some μ18 → Z p l e (zrm 6 0 0) s m args below meth c g Q 5 zNN 0 0 zσ1 μ18 69 [(0, .ref (zb g + a0))] [] → Z p l e (zrm 6 0 0) s m args below meth c g Q 5 zNN 0 0 zσ1 μ5 8 [(0, .ref (zb g + a0)), (2, .int y3), (3, .int y4)] [] := by
  intro n
  induction n with
  | zero =>
    intro y3 y4 μ5 μ18 h kx
    rw [f_X12_fitting_L8] at h
    cases h
  | succ n ih =>
    intro y3 y4 μ5 μ18 h kx
    rw [f_X12_fitting_L8] at h
    refine z_iload_n C0 dX12_fitting_8 rfl 2 rfl ?_
    refine z_aload_n C0 dX12_fitting_9 rfl 0 rfl ?_
    obtain ⟨r6, e_r6, h⟩ := zbd_of h
    refine z_callV (As := []) (rest := [.int y4]) C0 rfl kc_X12_mourners km_RX12_183 (r_X12_mourners (l := l) (g := g) a0 μ5 hU2 e_r6) hU2.1 hU2.2.2.1 rfl (by decide) rfl (Nat.le_of_ble_eq_true rfl) (Nat.le_of_ble_eq_true rfl) (Nat.le_of_ble_eq_true rfl) (Nat.le_of_ble_eq_true rfl) (Nat.le_refl _) rfl rfl dX12_fitting_10 ?_
    refine z_icmp_ge C0 69 dX12_fitting_13 (by decide) (fun c7 => ?_) (fun c7 => ?_)
    · have h := zif_t c7 h
      refine z_sub (lo1 := [(0, .ref (zb g + a0))]) [0] rfl ?_
      obtain rfl := (Option.some.inj h)
      exact kx
    · have h := zif_f c7 h
      refine z_aload_n C0 dX12_fitting_16 rfl 0 rfl ?_
      refine z_getr C0 hU2 kf_12_20 zr_12_23 zx_12 (zs_12_23 hU2).1 dX12_fitting_17 ?_
      refine z_iload_n C0 dX12_fitting_20 rfl 2 rfl ?_
      refine z_iload_n C0 dX12_fitting_21 rfl 1 rfl ?_
      refine z_aload_n C0 dX12_fitting_22 rfl 0 rfl ?_
      refine z_geti C0 hU2.1 hU2.2.2.1 kf_12_375 zr_12_33 dX12_fitting_23 ?_
      refine z_iconst (v := (1 : Int32)) C0 dX12_fitting_26 (by decide) ?_
      refine z_iadd C0 dX12_fitting_27 ?_
      obtain ⟨g8, h⟩ := zg_of h
      refine z_irem C0 dX12_fitting_28 g8 ?_
      refine z_aload_n C0 dX12_fitting_29 rfl 0 rfl ?_
      refine z_geti C0 hU2.1 hU2.2.2.1 kf_12_375 zr_12_33 dX12_fitting_30 ?_
      obtain ⟨x12, e_x12, h⟩ := zbd_of h
      refine z_join μ5 53 [(0, .ref (zb g + a0)), (2, .int y3), (3, .int y4)] [.int x12, .int y4, .ref (zb g + (a0 + 4))] ?_ (fun k_J10 => ?_)
      · obtain ⟨g13, h⟩ := zg_of h
        obtain ⟨μ14, e_μ14, h⟩ := zl_of h
        refine z_iast C0 (zs_12_23 hU2).2 g13 rfl e_μ14 dX12_fitting_53 ?_
        refine z_iload_n C0 dX12_fitting_54 rfl 1 rfl ?_
        refine z_aload_n C0 dX12_fitting_55 rfl 0 rfl ?_
        refine z_geti C0 hU2.1 hU2.2.2.1 kf_12_375 zr_12_33 dX12_fitting_56 ?_
        refine z_iconst (v := (1 : Int32)) C0 dX12_fitting_59 (by decide) ?_
        refine z_iadd C0 dX12_fitting_60 ?_
        obtain ⟨g15, h⟩ := zg_of h
        refine z_idiv C0 dX12_fitting_61 g15 ?_
        obtain ⟨x16, e_x16, h⟩ := zl_of h
        refine z_nm e_x16 ?_
        refine z_istore_n (lo1 := [(2, .int x16), (0, .ref (zb g + a0)), (3, .int y4)]) C0 dX12_fitting_62 rfl (by decide) rfl ?_
        obtain ⟨x17, e_x17, h⟩ := zl_of h
        refine z_iinc (lo1 := [(3, .int x17), (2, .int x16), (0, .ref (zb g + a0))]) C0 dX12_fitting_63 2 rfl (by decide) e_x17.symm (by decide) rfl ?_
        refine z_goto C0 8 dX12_fitting_66 (by decide) ?_
        refine z_sub (lo1 := [(0, .ref (zb g + a0)), (2, .int x16), (3, .int x17)]) [2, 1, 0] rfl ?_
        exact ih _ _ _ _ h kx
      · have h := e_x12
        refine z_icmp_ne C0 40 dX12_fitting_33 (by decide) (fun c9 => ?_) (fun c9 => ?_)
        · have h := zif_t c9 h
          refine z_aload_n C0 dX12_fitting_40 rfl 0 rfl ?_
          refine z_getr C0 hU2 kf_12_44 zr_12_34 zx_12 (zs_12_34 hU2).1 dX12_fitting_41 ?_
          refine z_iload_n C0 dX12_fitting_44 rfl 1 rfl ?_
          refine z_aload_n C0 dX12_fitting_45 rfl 0 rfl ?_
          refine z_geti C0 hU2.1 hU2.2.2.1 kf_12_375 zr_12_33 dX12_fitting_46 ?_
          refine z_iconst (v := (1 : Int32)) C0 dX12_fitting_49 (by decide) ?_
          refine z_iadd C0 dX12_fitting_50 ?_
          refine z_irem C0 dX12_fitting_51 g8 ?_
          obtain ⟨g11, h⟩ := zg_of h
          refine z_iald C0 (zs_12_34 hU2).2 g11 rfl dX12_fitting_52 ?_
          obtain rfl := (Option.some.inj h)
          exact k_J10
        · have h := zif_f (fun q => q c9) h
          refine z_iconst (v := (-1 : Int32)) C0 dX12_fitting_36 (by decide) ?_
          refine z_goto C0 53 dX12_fitting_37 (by decide) ?_
          obtain rfl := (Option.some.inj h)
          exact k_J10
set_option maxHeartbeats 4000000 in
set_option maxRecDepth 100000 in
theorem r_X12_fitting_L74 {l : Launch} {g : zL} {p : Program} {e : Env} {s : State} {m : MethodId} {args : Array Value} {below : List Frame} {meth : Method} {c : Code} {Q : State → Prop} (C0 : zC p s m args meth c g cX12_fitting yX12_fitting 5 (some (.int))) (a0 : Nat) (hU19 : zT zNN zσ1 a0 12) : ∀ (n : Nat) (y20 : Int32) (y21 : Int32) (μ22 : zM) (x41 : Int32) (μ42 : zM), f_X12_fitting_L74 a0 n y20 y21 μ22 = some (x41, μ42) → Z p l e (zrm 6 0 0) s m args below meth c g Q 5 zNN 0 0 zσ1 μ42 141 [(3, .int x41)] [] → Z p l e (zrm 6 0 0) s m args below meth c g Q 5 zNN 0 0 zσ1 μ22 74 [(0, .ref (zb g + a0)), (3, .int y20), (4, .int y21)] [] := by
  intro n
  induction n with
  | zero =>
    intro y20 y21 μ22 x41 μ42 h kx
    rw [f_X12_fitting_L74] at h
    cases h
  | succ n ih =>
    intro y20 y21 μ22 x41 μ42 h kx
    rw [f_X12_fitting_L74] at h
    refine z_iload C0 dX12_fitting_74 2 rfl ?_
    obtain ⟨b27, e_b27, h⟩ := zbd_of h
    refine z_joinb b27 μ22 87 141 [(0, .ref (zb g + a0)), (3, .int y20), (4, .int y21)] [] (fun z45 => ?_) (fun z45 => ?_) (fun k43 k44 => ?_)
    · have h := zif_t z45 h
      refine z_aload_n C0 dX12_fitting_87 rfl 0 rfl ?_
      refine z_iconst (v := (0 : Int32)) C0 dX12_fitting_88 (by decide) ?_
      obtain ⟨μ28, e_μ28, h⟩ := zbd_of h
      refine z_callV (As := [.int (0 : Int32)]) (rest := []) C0 rfl kc_X12_hour km_RX12_291 (r_X12_hour (l := l) (g := g) a0 (0 : Int32) μ22 hU19 e_μ28) hU19.1 hU19.2.2.1 rfl (by decide) rfl (Nat.le_of_ble_eq_true rfl) (Nat.le_of_ble_eq_true rfl) (Nat.le_of_ble_eq_true rfl) (Nat.le_of_ble_eq_true rfl) (Nat.le_refl _) rfl rfl dX12_fitting_89 ?_
      refine z_aload_n C0 dX12_fitting_92 rfl 0 rfl ?_
      refine z_geti C0 hU19.1 hU19.2.2.1 kf_12_218 zr_12_12 dX12_fitting_93 ?_
      refine z_aload_n C0 dX12_fitting_96 rfl 0 rfl ?_
      refine z_iload_n C0 dX12_fitting_97 rfl 1 rfl ?_
      refine z_iconst (v := (0 : Int32)) C0 dX12_fitting_98 (by decide) ?_
      obtain ⟨r29, e_r29, h⟩ := zbd_of h
      refine z_callV (As := [.int y20, .int (0 : Int32)]) (rest := [.int (μ28 a0 12)]) C0 rfl kc_X12_sightOf km_RX12_372 (r_X12_sightOf (l := l) (g := g) a0 y20 (0 : Int32) μ28 hU19 e_r29) hU19.1 hU19.2.2.1 rfl (by decide) rfl (Nat.le_of_ble_eq_true rfl) (Nat.le_of_ble_eq_true rfl) (Nat.le_of_ble_eq_true rfl) (Nat.le_of_ble_eq_true rfl) (Nat.le_refl _) rfl rfl dX12_fitting_99 ?_
      obtain ⟨x36, e_x36, h⟩ := zbd_of h
      refine z_join μ28 123 [(0, .ref (zb g + a0)), (3, .int y20)] [.int x36] ?_ (fun k_J35 => ?_)
      · refine z_istore (lo1 := [(4, .int x36), (0, .ref (zb g + a0)), (3, .int y20)]) C0 dX12_fitting_123 (by decide) rfl ?_
        refine z_iload_n C0 dX12_fitting_125 rfl 2 rfl ?_
        refine z_iload C0 dX12_fitting_126 0 rfl ?_
        obtain ⟨x39, e_x39, h⟩ := zl_of h
        refine z_join μ28 136 [(0, .ref (zb g + a0)), (4, .int x36)] [.int x39, .int y20] ?_ (fun k_J38 => ?_)
        · refine z_iadd C0 dX12_fitting_136 ?_
          obtain ⟨x40, e_x40, h⟩ := zl_of h
          refine z_nm e_x40 ?_
          refine z_istore_n (lo1 := [(3, .int x40), (0, .ref (zb g + a0)), (4, .int x36)]) C0 dX12_fitting_137 rfl (by decide) rfl ?_
          refine z_goto C0 74 dX12_fitting_138 (by decide) ?_
          refine z_sub (lo1 := [(0, .ref (zb g + a0)), (3, .int x40), (4, .int x36)]) [1, 0, 2] rfl ?_
          exact ih _ _ _ _ _ h kx
        · have h := e_x39.symm
          refine z_if_eq C0 135 dX12_fitting_128 (by decide) (fun c37 => ?_) (fun c37 => ?_)
          · have h := zif_t c37 h
            refine z_iconst (v := (0 : Int32)) C0 dX12_fitting_135 (by decide) ?_
            refine z_sub (lo1 := [(0, .ref (zb g + a0)), (4, .int x36)]) [1, 0] rfl ?_
            obtain rfl := h
            exact k_J38
          · have h := zif_f c37 h
            refine z_iconst (v := (1 : Int32)) C0 dX12_fitting_131 (by decide) ?_
            refine z_goto C0 136 dX12_fitting_132 (by decide) ?_
            refine z_sub (lo1 := [(0, .ref (zb g + a0)), (4, .int x36)]) [1, 0] rfl ?_
            obtain rfl := h
            exact k_J38
      · have h := e_x36
        obtain ⟨b34, e_b34, h⟩ := zbd_of h
        refine z_joinb b34 μ28 118 122 [(0, .ref (zb g + a0)), (3, .int y20), (4, .int y21)] [] (fun z48 => ?_) (fun z48 => ?_) (fun k46 k47 => ?_)
        · have h := zif_t z48 h
          refine z_iconst (v := (1 : Int32)) C0 dX12_fitting_118 (by decide) ?_
          refine z_goto C0 123 dX12_fitting_119 (by decide) ?_
          refine z_sub (lo1 := [(0, .ref (zb g + a0)), (3, .int y20)]) [0, 1] rfl ?_
          obtain rfl := (Option.some.inj h)
          exact k_J35
        · have h := zif_f (fun q => Bool.noConfusion (z48.symm.trans q)) h
          refine z_iconst (v := (0 : Int32)) C0 dX12_fitting_122 (by decide) ?_
          refine z_sub (lo1 := [(0, .ref (zb g + a0)), (3, .int y20)]) [0, 1] rfl ?_
          obtain rfl := (Option.some.inj h)
          exact k_J35
        · have h := e_b34
          refine z_icmp_ne C0 122 dX12_fitting_102 (by decide) (fun c30 => ?_) (fun c30 => ?_)
          · have h := zif_t c30 h
            exact k47 (Option.some.inj h).symm
          · have h := zif_f (fun q => q c30) h
            refine z_aload_n C0 dX12_fitting_105 rfl 0 rfl ?_
            refine z_geti C0 hU19.1 hU19.2.2.1 kf_12_221 zr_12_13 dX12_fitting_106 ?_
            refine z_aload_n C0 dX12_fitting_109 rfl 0 rfl ?_
            refine z_iload_n C0 dX12_fitting_110 rfl 1 rfl ?_
            refine z_iconst (v := (1 : Int32)) C0 dX12_fitting_111 (by decide) ?_
            obtain ⟨r32, e_r32, h⟩ := zbd_of h
            refine z_callV (As := [.int y20, .int (1 : Int32)]) (rest := [.int (μ28 a0 13)]) C0 rfl kc_X12_sightOf km_RX12_372 (r_X12_sightOf (l := l) (g := g) a0 y20 (1 : Int32) μ28 hU19 e_r32) hU19.1 hU19.2.2.1 rfl (by decide) rfl (Nat.le_of_ble_eq_true rfl) (Nat.le_of_ble_eq_true rfl) (Nat.le_of_ble_eq_true rfl) (Nat.le_of_ble_eq_true rfl) (Nat.le_refl _) rfl rfl dX12_fitting_112 ?_
            refine z_icmp_ne C0 122 dX12_fitting_115 (by decide) (fun c33 => ?_) (fun c33 => ?_)
            · have h := zif_t c33 h
              exact k47 (Option.some.inj h).symm
            · have h := zif_f (fun q => q c33) h
              exact k46 (Option.some.inj h).symm
    · have h := zif_f (fun q => Bool.noConfusion (z45.symm.trans q)) h
      refine z_sub (lo1 := [(3, .int y20)]) [1] rfl ?_
      obtain ⟨rfl, rfl⟩ := Prod.mk.inj (Option.some.inj h)
      exact kx
    · have h := e_b27
      refine z_if_eq C0 141 dX12_fitting_76 (by decide) (fun c23 => ?_) (fun c23 => ?_)
      · have h := zif_t c23 h
        exact k44 (Option.some.inj h).symm
      · have h := zif_f c23 h
        refine z_iload_n C0 dX12_fitting_79 rfl 1 rfl ?_
        refine z_aload_n C0 dX12_fitting_80 rfl 0 rfl ?_
        obtain ⟨r25, e_r25, h⟩ := zbd_of h
        refine z_callV (As := []) (rest := [.int y20]) C0 rfl kc_X12_sights km_RX12_369 (r_X12_sights (l := l) (g := g) a0 μ22 hU19 e_r25) hU19.1 hU19.2.2.1 rfl (by decide) rfl (Nat.le_of_ble_eq_true rfl) (Nat.le_of_ble_eq_true rfl) (Nat.le_of_ble_eq_true rfl) (Nat.le_of_ble_eq_true rfl) (Nat.le_refl _) rfl rfl dX12_fitting_81 ?_
        refine z_icmp_ge C0 141 dX12_fitting_84 (by decide) (fun c26 => ?_) (fun c26 => ?_)
        · have h := zif_t c26 h
          exact k44 (Option.some.inj h).symm
        · have h := zif_f c26 h
          exact k43 (Option.some.inj h).symm
set_option maxHeartbeats 4000000 in
set_option maxRecDepth 100000 in
theorem r_X12_fitting {l : Launch} {g : zL} (a0 : Nat) (v1 : Int32) (μ : zM) (hT0 : zT zNN zσ1 a0 12) {rv : Int32} {μr : zM} (h : f_X12_fitting a0 v1 μ = some (rv, μr)) : zMet l g yX12_fitting cX12_fitting 5 (some (.int)) 6 0 0 zNN zNN zσ1 zσ1 [.ref (zb g + a0), .int v1] μ (some (.int rv)) μr := by
  refine zMet.of (by decide +kernel) (Nat.le_of_ble_eq_true rfl) ?_
  intro p e s m args below meth c C0
  refine z_loc (lo1 := [(0, .ref (zb g + a0)), (1, .int v1)]) rfl ?_
  unfold f_X12_fitting at h
  refine z_aload_n C0 dX12_fitting_0 rfl 0 rfl ?_
  obtain ⟨μ1, e_μ1, h⟩ := zbd_of h
  refine z_callV (As := []) (rest := []) C0 rfl kc_X12_begins km_RX12_295 (r_X12_begins (l := l) (g := g) a0 μ hT0 e_μ1) hT0.1 hT0.2.2.1 rfl (by decide) rfl (Nat.le_of_ble_eq_true rfl) (Nat.le_of_ble_eq_true rfl) (Nat.le_of_ble_eq_true rfl) (Nat.le_of_ble_eq_true rfl) (Nat.le_refl _) rfl rfl dX12_fitting_1 ?_
  refine z_iload_n C0 dX12_fitting_4 rfl 1 rfl ?_
  refine z_istore_n (lo1 := [(2, .int v1), (0, .ref (zb g + a0)), (1, .int v1)]) C0 dX12_fitting_5 rfl (by decide) rfl ?_
  refine z_iconst (v := (0 : Int32)) C0 dX12_fitting_6 (by decide) ?_
  refine z_istore_n (lo1 := [(3, .int (0 : Int32)), (2, .int v1), (0, .ref (zb g + a0)), (1, .int v1)]) C0 dX12_fitting_7 rfl (by decide) rfl ?_
  refine z_sub (lo1 := [(0, .ref (zb g + a0)), (2, .int v1), (3, .int (0 : Int32))]) [2, 1, 0] rfl ?_
  obtain ⟨μ18, e_μ18, h⟩ := zbd_of h
  refine r_X12_fitting_L8 C0 a0 hT0 zFU v1 (0 : Int32) μ1 μ18 e_μ18 ?_
  refine z_iconst (v := (0 : Int32)) C0 dX12_fitting_69 (by decide) ?_
  refine z_istore_n (lo1 := [(3, .int (0 : Int32)), (0, .ref (zb g + a0))]) C0 dX12_fitting_70 rfl (by decide) rfl ?_
  refine z_iconst (v := (1 : Int32)) C0 dX12_fitting_71 (by decide) ?_
  refine z_istore (lo1 := [(4, .int (1 : Int32)), (3, .int (0 : Int32)), (0, .ref (zb g + a0))]) C0 dX12_fitting_72 (by decide) rfl ?_
  refine z_sub (lo1 := [(0, .ref (zb g + a0)), (3, .int (0 : Int32)), (4, .int (1 : Int32))]) [2, 1, 0] rfl ?_
  obtain ⟨x41, μ42, e_x41, h⟩ := zbd2_of h
  refine r_X12_fitting_L74 C0 a0 hT0 zFU (0 : Int32) (1 : Int32) μ18 x41 μ42 e_x41 ?_
  refine z_iload_n C0 dX12_fitting_141 rfl 0 rfl ?_
  have h := Option.some.inj h
  obtain ⟨rfl, rfl⟩ := Prod.mk.inj h
  exact z_iret C0 rfl dX12_fitting_142
