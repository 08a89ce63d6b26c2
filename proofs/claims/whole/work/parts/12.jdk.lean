def f_J6_bitCount_0f7a4 (v0 : Int32) : Int32 :=
  zl (v0 - ((zushr v0 (1 : Int32)) &&& (1431655765 : Int32))) fun x1 =>
  zl ((x1 &&& (858993459 : Int32)) + ((zushr x1 (2 : Int32)) &&& (858993459 : Int32))) fun x2 =>
  zl ((x2 + (zushr x2 (4 : Int32))) &&& (252645135 : Int32)) fun x3 =>
  zl (x3 + (zushr x3 (8 : Int32))) fun x4 =>
  zl (x4 + (zushr x4 (16 : Int32))) fun x5 =>
  (x5 &&& (63 : Int32))
set_option maxHeartbeats 4000000 in
set_option maxRecDepth 100000 in
theorem r_J6_bitCount_0f7a4 {l : Launch} {g : zL} (v0 : Int32) {μ : zM}  {rv : Int32} (h : f_J6_bitCount_0f7a4 v0 = rv) : zMet l g yJ6_bitCount_0f7a4 cJ6_bitCount_0f7a4 1 (some (.int)) 0 0 0 zNN zNN zσ1 zσ1 [.int v0] μ (some (.int rv)) μ := by
  refine zMet.of (by decide +kernel) (Nat.le_of_ble_eq_true rfl) ?_
  intro p e s m args below meth c C0
  refine z_loc (lo1 := [(0, .int v0)]) rfl ?_
  unfold f_J6_bitCount_0f7a4 at h
  refine z_iload_n C0 dJ6_bitCount_0f7a4_0 rfl 0 rfl ?_
  refine z_iload_n C0 dJ6_bitCount_0f7a4_1 rfl 0 rfl ?_
  refine z_iconst (v := (1 : Int32)) C0 dJ6_bitCount_0f7a4_2 (by decide) ?_
  refine z_iushr C0 dJ6_bitCount_0f7a4_3 ?_
  refine z_ldcw C0 dJ6_bitCount_0f7a4_4 kk_RJ6_265 ?_
  refine z_iand C0 dJ6_bitCount_0f7a4_7 ?_
  refine z_isub C0 dJ6_bitCount_0f7a4_8 ?_
  obtain ⟨x1, e_x1, h⟩ := zl_of h
  refine z_nm e_x1 ?_
  refine z_istore_n (lo1 := [(0, .int x1)]) C0 dJ6_bitCount_0f7a4_9 rfl (by decide) rfl ?_
  refine z_iload_n C0 dJ6_bitCount_0f7a4_10 rfl 0 rfl ?_
  refine z_ldcw C0 dJ6_bitCount_0f7a4_11 kk_RJ6_266 ?_
  refine z_iand C0 dJ6_bitCount_0f7a4_14 ?_
  refine z_iload_n C0 dJ6_bitCount_0f7a4_15 rfl 0 rfl ?_
  refine z_iconst (v := (2 : Int32)) C0 dJ6_bitCount_0f7a4_16 (by decide) ?_
  refine z_iushr C0 dJ6_bitCount_0f7a4_17 ?_
  refine z_ldcw C0 dJ6_bitCount_0f7a4_18 kk_RJ6_266 ?_
  refine z_iand C0 dJ6_bitCount_0f7a4_21 ?_
  refine z_iadd C0 dJ6_bitCount_0f7a4_22 ?_
  obtain ⟨x2, e_x2, h⟩ := zl_of h
  refine z_nm e_x2 ?_
  refine z_istore_n (lo1 := [(0, .int x2)]) C0 dJ6_bitCount_0f7a4_23 rfl (by decide) rfl ?_
  refine z_iload_n C0 dJ6_bitCount_0f7a4_24 rfl 0 rfl ?_
  refine z_iload_n C0 dJ6_bitCount_0f7a4_25 rfl 0 rfl ?_
  refine z_iconst (v := (4 : Int32)) C0 dJ6_bitCount_0f7a4_26 (by decide) ?_
  refine z_iushr C0 dJ6_bitCount_0f7a4_27 ?_
  refine z_iadd C0 dJ6_bitCount_0f7a4_28 ?_
  refine z_ldcw C0 dJ6_bitCount_0f7a4_29 kk_RJ6_267 ?_
  refine z_iand C0 dJ6_bitCount_0f7a4_32 ?_
  obtain ⟨x3, e_x3, h⟩ := zl_of h
  refine z_nm e_x3 ?_
  refine z_istore_n (lo1 := [(0, .int x3)]) C0 dJ6_bitCount_0f7a4_33 rfl (by decide) rfl ?_
  refine z_iload_n C0 dJ6_bitCount_0f7a4_34 rfl 0 rfl ?_
  refine z_iload_n C0 dJ6_bitCount_0f7a4_35 rfl 0 rfl ?_
  refine z_bipush (v := (8 : Int32)) C0 dJ6_bitCount_0f7a4_36 (by decide) ?_
  refine z_iushr C0 dJ6_bitCount_0f7a4_38 ?_
  refine z_iadd C0 dJ6_bitCount_0f7a4_39 ?_
  obtain ⟨x4, e_x4, h⟩ := zl_of h
  refine z_nm e_x4 ?_
  refine z_istore_n (lo1 := [(0, .int x4)]) C0 dJ6_bitCount_0f7a4_40 rfl (by decide) rfl ?_
  refine z_iload_n C0 dJ6_bitCount_0f7a4_41 rfl 0 rfl ?_
  refine z_iload_n C0 dJ6_bitCount_0f7a4_42 rfl 0 rfl ?_
  refine z_bipush (v := (16 : Int32)) C0 dJ6_bitCount_0f7a4_43 (by decide) ?_
  refine z_iushr C0 dJ6_bitCount_0f7a4_45 ?_
  refine z_iadd C0 dJ6_bitCount_0f7a4_46 ?_
  obtain ⟨x5, e_x5, h⟩ := zl_of h
  refine z_nm e_x5 ?_
  refine z_istore_n (lo1 := [(0, .int x5)]) C0 dJ6_bitCount_0f7a4_47 rfl (by decide) rfl ?_
  refine z_iload_n C0 dJ6_bitCount_0f7a4_48 rfl 0 rfl ?_
  refine z_bipush (v := (63 : Int32)) C0 dJ6_bitCount_0f7a4_49 (by decide) ?_
  refine z_iand C0 dJ6_bitCount_0f7a4_51 ?_
  skip
  obtain rfl := h
  exact z_iret C0 rfl dJ6_bitCount_0f7a4_52
def f_J6_numberOfTrailingZeros_0f7a4 (v0 : Int32) : Int32 :=
  zl ((v0 ^^^ (-1 : Int32)) &&& (v0 - (1 : Int32))) fun x1 =>
  if 0 < x1 then
    zl2 (if x1 ≤ (65536 : Int32) then
        (x1, (1 : Int32))
      else
        zl ((1 : Int32) + (16 : Int32)) fun x5 =>
        zl (zushr x1 (16 : Int32)) fun x6 =>
        (x6, x5)) fun x7 x8 =>
    zl2 (if x7 ≤ (256 : Int32) then
        (x7, x8)
      else
        zl (x8 + (8 : Int32)) fun x11 =>
        zl (zushr x7 (8 : Int32)) fun x12 =>
        (x12, x11)) fun x13 x14 =>
    zl2 (if x13 ≤ (16 : Int32) then
        (x13, x14)
      else
        zl (x14 + (4 : Int32)) fun x17 =>
        zl (zushr x13 (4 : Int32)) fun x18 =>
        (x18, x17)) fun x19 x20 =>
    zl2 (if x19 ≤ (4 : Int32) then
        (x19, x20)
      else
        zl (x20 + (2 : Int32)) fun x23 =>
        zl (zushr x19 (2 : Int32)) fun x24 =>
        (x24, x23)) fun x25 x26 =>
    (x26 + (zushr x25 (1 : Int32)))
  else
    (x1 &&& (32 : Int32))
set_option maxHeartbeats 4000000 in
set_option maxRecDepth 100000 in
theorem r_J6_numberOfTrailingZeros_0f7a4 {l : Launch} {g : zL} (v0 : Int32) {μ : zM}  {rv : Int32} (h : f_J6_numberOfTrailingZeros_0f7a4 v0 = rv) : zMet l g yJ6_numberOfTrailingZeros_0f7a4 cJ6_numberOfTrailingZeros_0f7a4 2 (some (.int)) 0 0 0 zNN zNN zσ1 zσ1 [.int v0] μ (some (.int rv)) μ := by
  refine zMet.of (by decide +kernel) (Nat.le_of_ble_eq_true rfl) ?_
  intro p e s m args below meth c C0
  refine z_loc (lo1 := [(0, .int v0)]) rfl ?_
  unfold f_J6_numberOfTrailingZeros_0f7a4 at h
  refine z_iload_n C0 dJ6_numberOfTrailingZeros_0f7a4_0 rfl 0 rfl ?_
  refine z_iconst (v := (-1 : Int32)) C0 dJ6_numberOfTrailingZeros_0f7a4_1 (by decide) ?_
  refine z_ixor C0 dJ6_numberOfTrailingZeros_0f7a4_2 ?_
  refine z_iload_n C0 dJ6_numberOfTrailingZeros_0f7a4_3 rfl 0 rfl ?_
  refine z_iconst (v := (1 : Int32)) C0 dJ6_numberOfTrailingZeros_0f7a4_4 (by decide) ?_
  refine z_isub C0 dJ6_numberOfTrailingZeros_0f7a4_5 ?_
  refine z_iand C0 dJ6_numberOfTrailingZeros_0f7a4_6 ?_
  obtain ⟨x1, e_x1, h⟩ := zl_of h
  refine z_nm e_x1 ?_
  refine z_istore_n (lo1 := [(0, .int x1)]) C0 dJ6_numberOfTrailingZeros_0f7a4_7 rfl (by decide) rfl ?_
  refine z_iload_n C0 dJ6_numberOfTrailingZeros_0f7a4_8 rfl 0 rfl ?_
  refine z_if_gt C0 17 dJ6_numberOfTrailingZeros_0f7a4_9 (by decide) (fun c2 => ?_) (fun c2 => ?_)
  · have h := zif_t c2 h
    refine z_iconst (v := (1 : Int32)) C0 dJ6_numberOfTrailingZeros_0f7a4_17 (by decide) ?_
    refine z_istore_n (lo1 := [(1, .int (1 : Int32)), (0, .int x1)]) C0 dJ6_numberOfTrailingZeros_0f7a4_18 rfl (by decide) rfl ?_
    refine z_iload_n C0 dJ6_numberOfTrailingZeros_0f7a4_19 rfl 1 rfl ?_
    refine z_ldcw C0 dJ6_numberOfTrailingZeros_0f7a4_20 kk_RJ6_264 ?_
    obtain ⟨x7, x8, e_x7, h⟩ := zl2_of h
    refine z_join μ 34 [(0, .int x7), (1, .int x8)] [] ?_ (fun k_J4 => ?_)
    · refine z_iload_n C0 dJ6_numberOfTrailingZeros_0f7a4_34 rfl 0 rfl ?_
      refine z_sipush (v := (256 : Int32)) C0 dJ6_numberOfTrailingZeros_0f7a4_35 (by decide) ?_
      obtain ⟨x13, x14, e_x13, h⟩ := zl2_of h
      refine z_join μ 49 [(0, .int x13), (1, .int x14)] [] ?_ (fun k_J10 => ?_)
      · refine z_iload_n C0 dJ6_numberOfTrailingZeros_0f7a4_49 rfl 0 rfl ?_
        refine z_bipush (v := (16 : Int32)) C0 dJ6_numberOfTrailingZeros_0f7a4_50 (by decide) ?_
        obtain ⟨x19, x20, e_x19, h⟩ := zl2_of h
        refine z_join μ 62 [(0, .int x19), (1, .int x20)] [] ?_ (fun k_J16 => ?_)
        · refine z_iload_n C0 dJ6_numberOfTrailingZeros_0f7a4_62 rfl 0 rfl ?_
          refine z_iconst (v := (4 : Int32)) C0 dJ6_numberOfTrailingZeros_0f7a4_63 (by decide) ?_
          obtain ⟨x25, x26, e_x25, h⟩ := zl2_of h
          refine z_join μ 74 [(0, .int x25), (1, .int x26)] [] ?_ (fun k_J22 => ?_)
          · refine z_iload_n C0 dJ6_numberOfTrailingZeros_0f7a4_74 rfl 1 rfl ?_
            refine z_iload_n C0 dJ6_numberOfTrailingZeros_0f7a4_75 rfl 0 rfl ?_
            refine z_iconst (v := (1 : Int32)) C0 dJ6_numberOfTrailingZeros_0f7a4_76 (by decide) ?_
            refine z_iushr C0 dJ6_numberOfTrailingZeros_0f7a4_77 ?_
            refine z_iadd C0 dJ6_numberOfTrailingZeros_0f7a4_78 ?_
            skip
            obtain rfl := h
            exact z_iret C0 rfl dJ6_numberOfTrailingZeros_0f7a4_79
          · have h := e_x25
            refine z_icmp_le C0 74 dJ6_numberOfTrailingZeros_0f7a4_64 (by decide) (fun c21 => ?_) (fun c21 => ?_)
            · have h := zif_t c21 h
              obtain ⟨rfl, rfl⟩ := Prod.mk.inj h
              exact k_J22
            · have h := zif_f c21 h
              obtain ⟨x23, e_x23, h⟩ := zl_of h
              refine z_iinc (lo1 := [(1, .int x23), (0, .int x19)]) C0 dJ6_numberOfTrailingZeros_0f7a4_67 1 rfl (by decide) e_x23.symm (by decide) rfl ?_
              refine z_iload_n C0 dJ6_numberOfTrailingZeros_0f7a4_70 rfl 1 rfl ?_
              refine z_iconst (v := (2 : Int32)) C0 dJ6_numberOfTrailingZeros_0f7a4_71 (by decide) ?_
              refine z_iushr C0 dJ6_numberOfTrailingZeros_0f7a4_72 ?_
              obtain ⟨x24, e_x24, h⟩ := zl_of h
              refine z_nm e_x24 ?_
              refine z_istore_n (lo1 := [(0, .int x24), (1, .int x23)]) C0 dJ6_numberOfTrailingZeros_0f7a4_73 rfl (by decide) rfl ?_
              obtain ⟨rfl, rfl⟩ := Prod.mk.inj h
              exact k_J22
        · have h := e_x19
          refine z_icmp_le C0 62 dJ6_numberOfTrailingZeros_0f7a4_52 (by decide) (fun c15 => ?_) (fun c15 => ?_)
          · have h := zif_t c15 h
            obtain ⟨rfl, rfl⟩ := Prod.mk.inj h
            exact k_J16
          · have h := zif_f c15 h
            obtain ⟨x17, e_x17, h⟩ := zl_of h
            refine z_iinc (lo1 := [(1, .int x17), (0, .int x13)]) C0 dJ6_numberOfTrailingZeros_0f7a4_55 1 rfl (by decide) e_x17.symm (by decide) rfl ?_
            refine z_iload_n C0 dJ6_numberOfTrailingZeros_0f7a4_58 rfl 1 rfl ?_
            refine z_iconst (v := (4 : Int32)) C0 dJ6_numberOfTrailingZeros_0f7a4_59 (by decide) ?_
            refine z_iushr C0 dJ6_numberOfTrailingZeros_0f7a4_60 ?_
            obtain ⟨x18, e_x18, h⟩ := zl_of h
            refine z_nm e_x18 ?_
            refine z_istore_n (lo1 := [(0, .int x18), (1, .int x17)]) C0 dJ6_numberOfTrailingZeros_0f7a4_61 rfl (by decide) rfl ?_
            obtain ⟨rfl, rfl⟩ := Prod.mk.inj h
            exact k_J16
      · have h := e_x13
        refine z_icmp_le C0 49 dJ6_numberOfTrailingZeros_0f7a4_38 (by decide) (fun c9 => ?_) (fun c9 => ?_)
        · have h := zif_t c9 h
          obtain ⟨rfl, rfl⟩ := Prod.mk.inj h
          exact k_J10
        · have h := zif_f c9 h
          obtain ⟨x11, e_x11, h⟩ := zl_of h
          refine z_iinc (lo1 := [(1, .int x11), (0, .int x7)]) C0 dJ6_numberOfTrailingZeros_0f7a4_41 1 rfl (by decide) e_x11.symm (by decide) rfl ?_
          refine z_iload_n C0 dJ6_numberOfTrailingZeros_0f7a4_44 rfl 1 rfl ?_
          refine z_bipush (v := (8 : Int32)) C0 dJ6_numberOfTrailingZeros_0f7a4_45 (by decide) ?_
          refine z_iushr C0 dJ6_numberOfTrailingZeros_0f7a4_47 ?_
          obtain ⟨x12, e_x12, h⟩ := zl_of h
          refine z_nm e_x12 ?_
          refine z_istore_n (lo1 := [(0, .int x12), (1, .int x11)]) C0 dJ6_numberOfTrailingZeros_0f7a4_48 rfl (by decide) rfl ?_
          obtain ⟨rfl, rfl⟩ := Prod.mk.inj h
          exact k_J10
    · have h := e_x7
      refine z_icmp_le C0 34 dJ6_numberOfTrailingZeros_0f7a4_23 (by decide) (fun c3 => ?_) (fun c3 => ?_)
      · have h := zif_t c3 h
        refine z_sub (lo1 := [(0, .int x1), (1, .int (1 : Int32))]) [1, 0] rfl ?_
        obtain ⟨rfl, rfl⟩ := Prod.mk.inj h
        exact k_J4
      · have h := zif_f c3 h
        obtain ⟨x5, e_x5, h⟩ := zl_of h
        refine z_iinc (lo1 := [(1, .int x5), (0, .int x1)]) C0 dJ6_numberOfTrailingZeros_0f7a4_26 0 rfl (by decide) e_x5.symm (by decide) rfl ?_
        refine z_iload_n C0 dJ6_numberOfTrailingZeros_0f7a4_29 rfl 1 rfl ?_
        refine z_bipush (v := (16 : Int32)) C0 dJ6_numberOfTrailingZeros_0f7a4_30 (by decide) ?_
        refine z_iushr C0 dJ6_numberOfTrailingZeros_0f7a4_32 ?_
        obtain ⟨x6, e_x6, h⟩ := zl_of h
        refine z_nm e_x6 ?_
        refine z_istore_n (lo1 := [(0, .int x6), (1, .int x5)]) C0 dJ6_numberOfTrailingZeros_0f7a4_33 rfl (by decide) rfl ?_
        obtain ⟨rfl, rfl⟩ := Prod.mk.inj h
        exact k_J4
  · have h := zif_f c2 h
    refine z_iload_n C0 dJ6_numberOfTrailingZeros_0f7a4_12 rfl 0 rfl ?_
    refine z_bipush (v := (32 : Int32)) C0 dJ6_numberOfTrailingZeros_0f7a4_13 (by decide) ?_
    refine z_iand C0 dJ6_numberOfTrailingZeros_0f7a4_15 ?_
    skip
    obtain rfl := h
    exact z_iret C0 rfl dJ6_numberOfTrailingZeros_0f7a4_16
def f_J6_signum_0f7a4 (v0 : Int32) : Int32 :=
  ((v0 >>> ((31 : Int32) &&& 31)) ||| (zushr (-v0) (31 : Int32)))
set_option maxHeartbeats 4000000 in
set_option maxRecDepth 100000 in
theorem r_J6_signum_0f7a4 {l : Launch} {g : zL} (v0 : Int32) {μ : zM}  {rv : Int32} (h : f_J6_signum_0f7a4 v0 = rv) : zMet l g yJ6_signum_0f7a4 cJ6_signum_0f7a4 1 (some (.int)) 0 0 0 zNN zNN zσ1 zσ1 [.int v0] μ (some (.int rv)) μ := by
  refine zMet.of (by decide +kernel) (Nat.le_of_ble_eq_true rfl) ?_
  intro p e s m args below meth c C0
  refine z_loc (lo1 := [(0, .int v0)]) rfl ?_
  unfold f_J6_signum_0f7a4 at h
  refine z_iload_n C0 dJ6_signum_0f7a4_0 rfl 0 rfl ?_
  refine z_bipush (v := (31 : Int32)) C0 dJ6_signum_0f7a4_1 (by decide) ?_
  refine z_ishr C0 dJ6_signum_0f7a4_3 ?_
  refine z_iload_n C0 dJ6_signum_0f7a4_4 rfl 0 rfl ?_
  refine z_ineg C0 dJ6_signum_0f7a4_5 ?_
  refine z_bipush (v := (31 : Int32)) C0 dJ6_signum_0f7a4_6 (by decide) ?_
  refine z_iushr C0 dJ6_signum_0f7a4_8 ?_
  refine z_ior C0 dJ6_signum_0f7a4_9 ?_
  skip
  obtain rfl := h
  exact z_iret C0 rfl dJ6_signum_0f7a4_10
def f_X11_isIn (v0 : Int32) (v1 : Int32) : Int32 :=
  zl (if ¬ ((v0 >>> (v1 &&& 31)) &&& (1 : Int32)) = (1 : Int32) then
      (0 : Int32)
    else
      (1 : Int32)) fun x3 =>
  x3
set_option maxHeartbeats 4000000 in
set_option maxRecDepth 100000 in
theorem r_X11_isIn {l : Launch} {g : zL} (v0 : Int32) (v1 : Int32) {μ : zM}  {rv : Int32} (h : f_X11_isIn v0 v1 = rv) : zMet l g yX11_isIn cX11_isIn 2 (some (.boolean)) 0 0 0 zNN zNN zσ1 zσ1 [.int v0, .int v1] μ (some (.int rv)) μ := by
  refine zMet.of (by decide +kernel) (Nat.le_of_ble_eq_true rfl) ?_
  intro p e s m args below meth c C0
  refine z_loc (lo1 := [(0, .int v0), (1, .int v1)]) rfl ?_
  unfold f_X11_isIn at h
  refine z_iload_n C0 dX11_isIn_0 rfl 0 rfl ?_
  refine z_iload_n C0 dX11_isIn_1 rfl 1 rfl ?_
  refine z_ishr C0 dX11_isIn_2 ?_
  refine z_iconst (v := (1 : Int32)) C0 dX11_isIn_3 (by decide) ?_
  refine z_iand C0 dX11_isIn_4 ?_
  refine z_iconst (v := (1 : Int32)) C0 dX11_isIn_5 (by decide) ?_
  obtain ⟨x3, e_x3, h⟩ := zl_of h
  refine z_join μ 14 [] [.int x3] ?_ (fun k_J2 => ?_)
  · skip
    obtain rfl := h
    exact z_zret C0 rfl (by rw [e_x3]; repeat' split <;> rfl) dX11_isIn_14
  · have h := e_x3.symm
    refine z_icmp_ne C0 13 dX11_isIn_6 (by decide) (fun c1 => ?_) (fun c1 => ?_)
    · have h := zif_t c1 h
      refine z_iconst (v := (0 : Int32)) C0 dX11_isIn_13 (by decide) ?_
      refine z_sub (lo1 := []) [] rfl ?_
      obtain rfl := h
      exact k_J2
    · have h := zif_f (fun q => q c1) h
      refine z_iconst (v := (1 : Int32)) C0 dX11_isIn_9 (by decide) ?_
      refine z_goto C0 14 dX11_isIn_10 (by decide) ?_
      refine z_sub (lo1 := []) [] rfl ?_
      obtain rfl := h
      exact k_J2
