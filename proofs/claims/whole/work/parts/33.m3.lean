def f_X12_heaviest_L35 (a0 : Nat) (v1 : Int32) (y2 : Int32) (y3 : Int32) (y4 : Int32) (μ15 : zM) : Nat → Int32 → Int32 → Option (Int32)
  | 0, _, _ => none
  | n + 1, y13, y14 =>
    zbd (f_X12_of a0 (12 : Int32) μ15) fun r16 =>
    if r16 ≤ y14 then
      some y13
    else
      zbd (f_X12_of a0 ((56 : Int32) + ((2 : Int32) * y14)) μ15) fun r18 =>
      zbd (if v1 = 0 then
          zbd (f_X12_of a0 (2 : Int32) μ15) fun r21 =>
          zg (znz r21) <|
          some (r18 / r21)
        else
          zbd (f_X12_of a0 (2 : Int32) μ15) fun r23 =>
          zg (znz r23) <|
          some (r18 % r23)) fun x25 =>
      zbd (if ¬ x25 = y4 then
          some (0 : Int32)
        else
          zbd (f_X12_of a0 (((56 : Int32) + ((2 : Int32) * y14)) + (1 : Int32)) μ15) fun r28 =>
          some r28) fun x29 =>
      zl (y13 + x29) fun x30 =>
      zl (y14 + (1 : Int32)) fun x31 =>
      f_X12_heaviest_L35 a0 v1 y2 y3 y4 μ15 n x30 x31
def f_X12_heaviest_L7 (a0 : Nat) (v1 : Int32) (μ5 : zM) : Nat → Int32 → Int32 → Int32 → Option (Int32)
  | 0, _, _, _ => none
  | n + 1, y2, y3, y4 =>
    zbd (if v1 = 0 then
        zbd (f_X12_of a0 (3 : Int32) μ5) fun r8 =>
        some r8
      else
        zbd (f_X12_of a0 (2 : Int32) μ5) fun r9 =>
        some r9) fun x10 =>
    if x10 ≤ y4 then
      some y2
    else
      zbd (f_X12_heaviest_L35 a0 v1 y2 y3 y4 μ5 zFU (0 : Int32) (0 : Int32)) fun x32 =>
      zl (if x32 ≤ y3 then
          y2
        else
          y4) fun x35 =>
      zl (if x32 ≤ y3 then
          y3
        else
          x32) fun x38 =>
      zl (y4 + (1 : Int32)) fun x39 =>
      f_X12_heaviest_L7 a0 v1 μ5 n x35 x38 x39
def f_X12_heaviest (a0 : Nat) (v1 : Int32) (μ : zM) : Option (Int32) :=
  zbd (f_X12_heaviest_L7 a0 v1 μ zFU (0 : Int32) (-1 : Int32) (0 : Int32)) fun x40 =>
  some x40
set_option maxHeartbeats 4000000 in
set_option maxRecDepth 100000 in
theorem r_X12_heaviest_L35 {l : Launch} {g : zL} {p : Program} {e : Env} {s : State} {m : MethodId} {args : Array Value} {below : List Frame} {meth : Method} {c : Code} {Q : State → Prop} (C0 : zC p s m args meth c g cX12_heaviest yX12_heaviest 8 (some (.int))) (a0 : Nat) (v1 : Int32) (y2 : Int32) (y3 : Int32) (y4 : Int32) (μ15 : zM) (hU12 : zT zNN zσ1 a0 12) : ∀ (n : Nat) (y13 : Int32) (y14 : Int32) (x32 : Int32), f_X12_heaviest_L35 a0 v1 y2 y3 y4 μ15 n y13 y14 = some x32 → Z p l e (zrm 1 0 0) s m args below meth c g Q 8 zNN 0 0 zσ1 μ15 115 [(0, .ref (zb g + a0)), (1, .int v1), (2, .int y2), (3, .int y3), (4, .int y4), (5, .int x32)] [] → Z p l e (zrm 1 0 0) s m args below meth c g Q 8 zNN 0 0 zσ1 μ15 35 [(0, .ref (zb g + a0)), (1, .int v1), (2, .int y2), (3, .int y3), (4, .int y4), (5, .int y13), (6, .int y14)] [] := by
  intro n
  induction n with
  | zero =>
    intro y13 y14 x32 h kx
    rw [f_X12_heaviest_L35] at h
    cases h
  | succ n ih =>
    intro y13 y14 x32 h kx
    rw [f_X12_heaviest_L35] at h
    refine z_iload C0 dX12_heaviest_35 6 rfl ?_
    refine z_aload_n C0 dX12_heaviest_37 rfl 0 rfl ?_
    refine z_bipush (v := (12 : Int32)) C0 dX12_heaviest_38 (by decide) ?_
    obtain ⟨r16, e_r16, h⟩ := zbd_of h
    refine z_callV (As := [.int (12 : Int32)]) (rest := [.int y14]) C0 rfl kc_X12_of km_RX12_180 (r_X12_of (l := l) (g := g) a0 (12 : Int32) μ15 hU12 e_r16) hU12.1 hU12.2.2.1 rfl (by decide) rfl (Nat.le_of_ble_eq_true rfl) (Nat.le_of_ble_eq_true rfl) (Nat.le_of_ble_eq_true rfl) (Nat.le_of_ble_eq_true rfl) (Nat.le_refl _) rfl rfl dX12_heaviest_40 ?_
    refine z_icmp_ge C0 115 dX12_heaviest_43 (by decide) (fun c17 => ?_) (fun c17 => ?_)
    · have h := zif_t c17 h
      refine z_sub (lo1 := [(0, .ref (zb g + a0)), (1, .int v1), (2, .int y2), (3, .int y3), (4, .int y4), (5, .int y13)]) [0, 1, 2, 3, 4, 5] rfl ?_
      obtain rfl := (Option.some.inj h)
      exact kx
    · have h := zif_f c17 h
      refine z_aload_n C0 dX12_heaviest_46 rfl 0 rfl ?_
      refine z_bipush (v := (56 : Int32)) C0 dX12_heaviest_47 (by decide) ?_
      refine z_iconst (v := (2 : Int32)) C0 dX12_heaviest_49 (by decide) ?_
      refine z_iload C0 dX12_heaviest_50 6 rfl ?_
      refine z_imul C0 dX12_heaviest_52 ?_
      refine z_iadd C0 dX12_heaviest_53 ?_
      obtain ⟨r18, e_r18, h⟩ := zbd_of h
      refine z_callV (As := [.int ((56 : Int32) + ((2 : Int32) * y14))]) (rest := []) C0 rfl kc_X12_of km_RX12_180 (r_X12_of (l := l) (g := g) a0 ((56 : Int32) + ((2 : Int32) * y14)) μ15 hU12 e_r18) hU12.1 hU12.2.2.1 rfl (by decide) rfl (Nat.le_of_ble_eq_true rfl) (Nat.le_of_ble_eq_true rfl) (Nat.le_of_ble_eq_true rfl) (Nat.le_of_ble_eq_true rfl) (Nat.le_refl _) rfl rfl dX12_heaviest_54 ?_
      refine z_istore (lo1 := [(7, .int r18), (0, .ref (zb g + a0)), (1, .int v1), (2, .int y2), (3, .int y3), (4, .int y4), (5, .int y13), (6, .int y14)]) C0 dX12_heaviest_57 (by decide) rfl ?_
      refine z_iload C0 dX12_heaviest_59 6 rfl ?_
      refine z_iload_n C0 dX12_heaviest_61 rfl 2 rfl ?_
      obtain ⟨x25, e_x25, h⟩ := zbd_of h
      refine z_join μ15 84 [(0, .ref (zb g + a0)), (1, .int v1), (2, .int y2), (3, .int y3), (4, .int y4), (6, .int y14)] [.int x25, .int y13] ?_ (fun k_J20 => ?_)
      · refine z_iload C0 dX12_heaviest_84 4 rfl ?_
        obtain ⟨x29, e_x29, h⟩ := zbd_of h
        refine z_join μ15 106 [(0, .ref (zb g + a0)), (1, .int v1), (2, .int y2), (3, .int y3), (4, .int y4), (6, .int y14)] [.int x29, .int y13] ?_ (fun k_J27 => ?_)
        · refine z_iadd C0 dX12_heaviest_106 ?_
          obtain ⟨x30, e_x30, h⟩ := zl_of h
          refine z_nm e_x30 ?_
          refine z_istore (lo1 := [(5, .int x30), (0, .ref (zb g + a0)), (1, .int v1), (2, .int y2), (3, .int y3), (4, .int y4), (6, .int y14)]) C0 dX12_heaviest_107 (by decide) rfl ?_
          obtain ⟨x31, e_x31, h⟩ := zl_of h
          refine z_iinc (lo1 := [(6, .int x31), (5, .int x30), (0, .ref (zb g + a0)), (1, .int v1), (2, .int y2), (3, .int y3), (4, .int y4)]) C0 dX12_heaviest_109 6 rfl (by decide) e_x31.symm (by decide) rfl ?_
          refine z_goto C0 35 dX12_heaviest_112 (by decide) ?_
          refine z_sub (lo1 := [(0, .ref (zb g + a0)), (1, .int v1), (2, .int y2), (3, .int y3), (4, .int y4), (5, .int x30), (6, .int x31)]) [2, 3, 4, 5, 6, 1, 0] rfl ?_
          exact ih _ _ _ h kx
        · have h := e_x29
          refine z_icmp_ne C0 105 dX12_heaviest_86 (by decide) (fun c26 => ?_) (fun c26 => ?_)
          · have h := zif_t c26 h
            refine z_iconst (v := (0 : Int32)) C0 dX12_heaviest_105 (by decide) ?_
            obtain rfl := (Option.some.inj h)
            exact k_J27
          · have h := zif_f (fun q => q c26) h
            refine z_aload_n C0 dX12_heaviest_89 rfl 0 rfl ?_
            refine z_bipush (v := (56 : Int32)) C0 dX12_heaviest_90 (by decide) ?_
            refine z_iconst (v := (2 : Int32)) C0 dX12_heaviest_92 (by decide) ?_
            refine z_iload C0 dX12_heaviest_93 5 rfl ?_
            refine z_imul C0 dX12_heaviest_95 ?_
            refine z_iadd C0 dX12_heaviest_96 ?_
            refine z_iconst (v := (1 : Int32)) C0 dX12_heaviest_97 (by decide) ?_
            refine z_iadd C0 dX12_heaviest_98 ?_
            obtain ⟨r28, e_r28, h⟩ := zbd_of h
            refine z_callV (As := [.int (((56 : Int32) + ((2 : Int32) * y14)) + (1 : Int32))]) (rest := [.int y13]) C0 rfl kc_X12_of km_RX12_180 (r_X12_of (l := l) (g := g) a0 (((56 : Int32) + ((2 : Int32) * y14)) + (1 : Int32)) μ15 hU12 e_r28) hU12.1 hU12.2.2.1 rfl (by decide) rfl (Nat.le_of_ble_eq_true rfl) (Nat.le_of_ble_eq_true rfl) (Nat.le_of_ble_eq_true rfl) (Nat.le_of_ble_eq_true rfl) (Nat.le_refl _) rfl rfl dX12_heaviest_99 ?_
            refine z_goto C0 106 dX12_heaviest_102 (by decide) ?_
            obtain rfl := (Option.some.inj h)
            exact k_J27
      · have h := e_x25
        refine z_if_eq C0 76 dX12_heaviest_62 (by decide) (fun c19 => ?_) (fun c19 => ?_)
        · have h := zif_t c19 h
          refine z_iload C0 dX12_heaviest_76 0 rfl ?_
          refine z_aload_n C0 dX12_heaviest_78 rfl 1 rfl ?_
          refine z_iconst (v := (2 : Int32)) C0 dX12_heaviest_79 (by decide) ?_
          obtain ⟨r21, e_r21, h⟩ := zbd_of h
          refine z_callV (As := [.int (2 : Int32)]) (rest := [.int r18, .int y13]) C0 rfl kc_X12_of km_RX12_180 (r_X12_of (l := l) (g := g) a0 (2 : Int32) μ15 hU12 e_r21) hU12.1 hU12.2.2.1 rfl (by decide) rfl (Nat.le_of_ble_eq_true rfl) (Nat.le_of_ble_eq_true rfl) (Nat.le_of_ble_eq_true rfl) (Nat.le_of_ble_eq_true rfl) (Nat.le_refl _) rfl rfl dX12_heaviest_80 ?_
          obtain ⟨g22, h⟩ := zg_of h
          refine z_idiv C0 dX12_heaviest_83 g22 ?_
          refine z_sub (lo1 := [(0, .ref (zb g + a0)), (1, .int v1), (2, .int y2), (3, .int y3), (4, .int y4), (6, .int y14)]) [1, 2, 3, 4, 5, 7] rfl ?_
          obtain rfl := (Option.some.inj h)
          exact k_J20
        · have h := zif_f c19 h
          refine z_iload C0 dX12_heaviest_65 0 rfl ?_
          refine z_aload_n C0 dX12_heaviest_67 rfl 1 rfl ?_
          refine z_iconst (v := (2 : Int32)) C0 dX12_heaviest_68 (by decide) ?_
          obtain ⟨r23, e_r23, h⟩ := zbd_of h
          refine z_callV (As := [.int (2 : Int32)]) (rest := [.int r18, .int y13]) C0 rfl kc_X12_of km_RX12_180 (r_X12_of (l := l) (g := g) a0 (2 : Int32) μ15 hU12 e_r23) hU12.1 hU12.2.2.1 rfl (by decide) rfl (Nat.le_of_ble_eq_true rfl) (Nat.le_of_ble_eq_true rfl) (Nat.le_of_ble_eq_true rfl) (Nat.le_of_ble_eq_true rfl) (Nat.le_refl _) rfl rfl dX12_heaviest_69 ?_
          obtain ⟨g24, h⟩ := zg_of h
          refine z_irem C0 dX12_heaviest_72 g24 ?_
          refine z_goto C0 84 dX12_heaviest_73 (by decide) ?_
          refine z_sub (lo1 := [(0, .ref (zb g + a0)), (1, .int v1), (2, .int y2), (3, .int y3), (4, .int y4), (6, .int y14)]) [1, 2, 3, 4, 5, 7] rfl ?_
          obtain rfl := (Option.some.inj h)
          exact k_J20
set_option maxHeartbeats 4000000 in
set_option maxRecDepth 100000 in
theorem r_X12_heaviest_L7 {l : Launch} {g : zL} {p : Program} {e : Env} {s : State} {m : MethodId} {args : Array Value} {below : List Frame} {meth : Method} {c : Code} {Q : State → Prop} (C0 : zC p s m args meth c g cX12_heaviest yX12_heaviest 8 (some (.int))) (a0 : Nat) (v1 : Int32) (μ5 : zM) (hU1 : zT zNN zσ1 a0 12) : ∀ (n : Nat) (y2 : Int32) (y3 : Int32) (y4 : Int32) (x40 : Int32), f_X12_heaviest_L7 a0 v1 μ5 n y2 y3 y4 = some x40 → Z p l e (zrm 1 0 0) s m args below meth c g Q 8 zNN 0 0 zσ1 μ5 147 [(2, .int x40)] [] → Z p l e (zrm 1 0 0) s m args below meth c g Q 8 zNN 0 0 zσ1 μ5 7 [(0, .ref (zb g + a0)), (1, .int v1), (2, .int y2), (3, .int y3), (4, .int y4)] [] := by
  intro n
  induction n with
  | zero =>
    intro y2 y3 y4 x40 h kx
    rw [f_X12_heaviest_L7] at h
    cases h
  | succ n ih =>
    intro y2 y3 y4 x40 h kx
    rw [f_X12_heaviest_L7] at h
    refine z_iload C0 dX12_heaviest_7 4 rfl ?_
    refine z_iload_n C0 dX12_heaviest_9 rfl 1 rfl ?_
    obtain ⟨x10, e_x10, h⟩ := zbd_of h
    refine z_join μ5 26 [(0, .ref (zb g + a0)), (1, .int v1), (2, .int y2), (3, .int y3), (4, .int y4)] [.int x10, .int y4] ?_ (fun k_J7 => ?_)
    · refine z_icmp_ge C0 147 dX12_heaviest_26 (by decide) (fun c11 => ?_) (fun c11 => ?_)
      · have h := zif_t c11 h
        refine z_sub (lo1 := [(2, .int y2)]) [2] rfl ?_
        obtain rfl := (Option.some.inj h)
        exact kx
      · have h := zif_f c11 h
        refine z_iconst (v := (0 : Int32)) C0 dX12_heaviest_29 (by decide) ?_
        refine z_istore (lo1 := [(5, .int (0 : Int32)), (0, .ref (zb g + a0)), (1, .int v1), (2, .int y2), (3, .int y3), (4, .int y4)]) C0 dX12_heaviest_30 (by decide) rfl ?_
        refine z_iconst (v := (0 : Int32)) C0 dX12_heaviest_32 (by decide) ?_
        refine z_istore (lo1 := [(6, .int (0 : Int32)), (5, .int (0 : Int32)), (0, .ref (zb g + a0)), (1, .int v1), (2, .int y2), (3, .int y3), (4, .int y4)]) C0 dX12_heaviest_33 (by decide) rfl ?_
        refine z_sub (lo1 := [(0, .ref (zb g + a0)), (1, .int v1), (2, .int y2), (3, .int y3), (4, .int y4), (5, .int (0 : Int32)), (6, .int (0 : Int32))]) [2, 3, 4, 5, 6, 1, 0] rfl ?_
        obtain ⟨x32, e_x32, h⟩ := zbd_of h
        refine r_X12_heaviest_L35 C0 a0 v1 y2 y3 y4 μ5 hU1 zFU (0 : Int32) (0 : Int32) x32 e_x32 ?_
        refine z_iload C0 dX12_heaviest_115 5 rfl ?_
        refine z_iload_n C0 dX12_heaviest_117 rfl 3 rfl ?_
        obtain ⟨x35, e_x35, h⟩ := zl_of h
        refine z_join μ5 127 [(0, .ref (zb g + a0)), (1, .int v1), (3, .int y3), (4, .int y4), (5, .int x32)] [.int x35] ?_ (fun k_J34 => ?_)
        · refine z_istore_n (lo1 := [(2, .int x35), (0, .ref (zb g + a0)), (1, .int v1), (3, .int y3), (4, .int y4), (5, .int x32)]) C0 dX12_heaviest_127 rfl (by decide) rfl ?_
          refine z_iload C0 dX12_heaviest_128 5 rfl ?_
          refine z_iload_n C0 dX12_heaviest_130 rfl 3 rfl ?_
          obtain ⟨x38, e_x38, h⟩ := zl_of h
          refine z_join μ5 140 [(0, .ref (zb g + a0)), (1, .int v1), (2, .int x35), (4, .int y4)] [.int x38] ?_ (fun k_J37 => ?_)
          · refine z_istore_n (lo1 := [(3, .int x38), (0, .ref (zb g + a0)), (1, .int v1), (2, .int x35), (4, .int y4)]) C0 dX12_heaviest_140 rfl (by decide) rfl ?_
            obtain ⟨x39, e_x39, h⟩ := zl_of h
            refine z_iinc (lo1 := [(4, .int x39), (3, .int x38), (0, .ref (zb g + a0)), (1, .int v1), (2, .int x35)]) C0 dX12_heaviest_141 4 rfl (by decide) e_x39.symm (by decide) rfl ?_
            refine z_goto C0 7 dX12_heaviest_144 (by decide) ?_
            refine z_sub (lo1 := [(0, .ref (zb g + a0)), (1, .int v1), (2, .int x35), (3, .int x38), (4, .int x39)]) [2, 3, 4, 1, 0] rfl ?_
            exact ih _ _ _ _ h kx
          · have h := e_x38.symm
            refine z_icmp_le C0 139 dX12_heaviest_131 (by decide) (fun c36 => ?_) (fun c36 => ?_)
            · have h := zif_t c36 h
              refine z_iload_n C0 dX12_heaviest_139 rfl 3 rfl ?_
              refine z_sub (lo1 := [(0, .ref (zb g + a0)), (1, .int v1), (2, .int x35), (4, .int y4)]) [1, 2, 0, 4] rfl ?_
              obtain rfl := h
              exact k_J37
            · have h := zif_f c36 h
              refine z_iload C0 dX12_heaviest_134 5 rfl ?_
              refine z_goto C0 140 dX12_heaviest_136 (by decide) ?_
              refine z_sub (lo1 := [(0, .ref (zb g + a0)), (1, .int v1), (2, .int x35), (4, .int y4)]) [1, 2, 0, 4] rfl ?_
              obtain rfl := h
              exact k_J37
        · have h := e_x35.symm
          refine z_icmp_le C0 126 dX12_heaviest_118 (by decide) (fun c33 => ?_) (fun c33 => ?_)
          · have h := zif_t c33 h
            refine z_iload_n C0 dX12_heaviest_126 rfl 2 rfl ?_
            refine z_sub (lo1 := [(0, .ref (zb g + a0)), (1, .int v1), (3, .int y3), (4, .int y4), (5, .int x32)]) [0, 1, 3, 4, 5] rfl ?_
            obtain rfl := h
            exact k_J34
          · have h := zif_f c33 h
            refine z_iload C0 dX12_heaviest_121 4 rfl ?_
            refine z_goto C0 127 dX12_heaviest_123 (by decide) ?_
            refine z_sub (lo1 := [(0, .ref (zb g + a0)), (1, .int v1), (3, .int y3), (4, .int y4), (5, .int x32)]) [0, 1, 3, 4, 5] rfl ?_
            obtain rfl := h
            exact k_J34
    · have h := e_x10
      refine z_if_eq C0 21 dX12_heaviest_10 (by decide) (fun c6 => ?_) (fun c6 => ?_)
      · have h := zif_t c6 h
        refine z_aload_n C0 dX12_heaviest_21 rfl 0 rfl ?_
        refine z_iconst (v := (3 : Int32)) C0 dX12_heaviest_22 (by decide) ?_
        obtain ⟨r8, e_r8, h⟩ := zbd_of h
        refine z_callV (As := [.int (3 : Int32)]) (rest := [.int y4]) C0 rfl kc_X12_of km_RX12_180 (r_X12_of (l := l) (g := g) a0 (3 : Int32) μ5 hU1 e_r8) hU1.1 hU1.2.2.1 rfl (by decide) rfl (Nat.le_of_ble_eq_true rfl) (Nat.le_of_ble_eq_true rfl) (Nat.le_of_ble_eq_true rfl) (Nat.le_of_ble_eq_true rfl) (Nat.le_refl _) rfl rfl dX12_heaviest_23 ?_
        obtain rfl := (Option.some.inj h)
        exact k_J7
      · have h := zif_f c6 h
        refine z_aload_n C0 dX12_heaviest_13 rfl 0 rfl ?_
        refine z_iconst (v := (2 : Int32)) C0 dX12_heaviest_14 (by decide) ?_
        obtain ⟨r9, e_r9, h⟩ := zbd_of h
        refine z_callV (As := [.int (2 : Int32)]) (rest := [.int y4]) C0 rfl kc_X12_of km_RX12_180 (r_X12_of (l := l) (g := g) a0 (2 : Int32) μ5 hU1 e_r9) hU1.1 hU1.2.2.1 rfl (by decide) rfl (Nat.le_of_ble_eq_true rfl) (Nat.le_of_ble_eq_true rfl) (Nat.le_of_ble_eq_true rfl) (Nat.le_of_ble_eq_true rfl) (Nat.le_refl _) rfl rfl dX12_heaviest_15 ?_
        refine z_goto C0 26 dX12_heaviest_18 (by decide) ?_
        obtain rfl := (Option.some.inj h)
        exact k_J7
set_option maxHeartbeats 4000000 in
set_option maxRecDepth 100000 in
theorem r_X12_heaviest {l : Launch} {g : zL} (a0 : Nat) (v1 : Int32) (μ : zM) (hT0 : zT zNN zσ1 a0 12) {rv : Int32} (h : f_X12_heaviest a0 v1 μ = some rv) : zMet l g yX12_heaviest cX12_heaviest 8 (some (.int)) 1 0 0 zNN zNN zσ1 zσ1 [.ref (zb g + a0), .int v1] μ (some (.int rv)) μ := by
  refine zMet.of (by decide +kernel) (Nat.le_of_ble_eq_true rfl) ?_
  intro p e s m args below meth c C0
  refine z_loc (lo1 := [(0, .ref (zb g + a0)), (1, .int v1)]) rfl ?_
  unfold f_X12_heaviest at h
  refine z_iconst (v := (0 : Int32)) C0 dX12_heaviest_0 (by decide) ?_
  refine z_istore_n (lo1 := [(2, .int (0 : Int32)), (0, .ref (zb g + a0)), (1, .int v1)]) C0 dX12_heaviest_1 rfl (by decide) rfl ?_
  refine z_iconst (v := (-1 : Int32)) C0 dX12_heaviest_2 (by decide) ?_
  refine z_istore_n (lo1 := [(3, .int (-1 : Int32)), (2, .int (0 : Int32)), (0, .ref (zb g + a0)), (1, .int v1)]) C0 dX12_heaviest_3 rfl (by decide) rfl ?_
  refine z_iconst (v := (0 : Int32)) C0 dX12_heaviest_4 (by decide) ?_
  refine z_istore (lo1 := [(4, .int (0 : Int32)), (3, .int (-1 : Int32)), (2, .int (0 : Int32)), (0, .ref (zb g + a0)), (1, .int v1)]) C0 dX12_heaviest_5 (by decide) rfl ?_
  refine z_sub (lo1 := [(0, .ref (zb g + a0)), (1, .int v1), (2, .int (0 : Int32)), (3, .int (-1 : Int32)), (4, .int (0 : Int32))]) [3, 4, 2, 1, 0] rfl ?_
  obtain ⟨x40, e_x40, h⟩ := zbd_of h
  refine r_X12_heaviest_L7 C0 a0 v1 μ hT0 zFU (0 : Int32) (-1 : Int32) (0 : Int32) x40 e_x40 ?_
  refine z_iload_n C0 dX12_heaviest_147 rfl 0 rfl ?_
  have h := Option.some.inj h
  obtain rfl := h
  exact z_iret C0 rfl dX12_heaviest_148
def f_X12_image_L20 (a0 : Nat) (v1 : Int32) : Nat → Int32 → zM → Option (zM)
  | 0, _, _ => none
  | n + 1, y5, μ6 =>
    if (1172 : Int32) ≤ y5 then
      some μ6
    else
      zg (zin y5 4688) <|
      zg (zin (((1172 : Int32) * (v1 + (1 : Int32))) + y5) 4688) <|
      zl (zup μ6 (a0 + 1) ((((1172 : Int32) * (v1 + (1 : Int32))) + y5).toNatClampNeg) (μ6 (a0 + 1) (y5.toNatClampNeg))) fun μ10 =>
      zl (y5 + (1 : Int32)) fun x11 =>
      f_X12_image_L20 a0 v1 n x11 μ10
def f_X12_image (a0 : Nat) (v1 : Int32) (μ : zM) : Option (Int32 × zM) :=
  if ¬ (f_X12_isIn v1 (0 : Int32) (2 : Int32)) = 0 then
    zg (zin v1 3) <|
    zl (zup μ (a0 + 2) (v1.toNatClampNeg) (znb (1 : Int32))) fun μ3 =>
    zbd (f_X12_image_L20 a0 v1 zFU (0 : Int32) μ3) fun μ12 =>
    some ((1 : Int32), μ12)
  else
    some ((0 : Int32), μ)
set_option maxHeartbeats 4000000 in
set_option maxRecDepth 100000 in
theorem r_X12_image_L20 {l : Launch} {g : zL} {p : Program} {e : Env} {s : State} {m : MethodId} {args : Array Value} {below : List Frame} {meth : Method} {c : Code} {Q : State → Prop} (C0 : zC p s m args meth c g cX12_image yX12_image 3 (some (.boolean))) (a0 : Nat) (v1 : Int32) (hU4 : zT zNN zσ1 a0 12) : ∀ (n : Nat) (y5 : Int32) (μ6 : zM) (μ12 : zM), f_X12_image_L20 a0 v1 n y5 μ6 = some μ12 → Z p l e (zrm 1 0 0) s m args below meth c g Q 3 zNN 0 0 zσ1 μ12 53 [] [] → Z p l e (zrm 1 0 0) s m args below meth c g Q 3 zNN 0 0 zσ1 μ6 20 [(0, .ref (zb g + a0)), (1, .int v1), (2, .int y5)] [] := by
  intro n
  induction n with
  | zero =>
    intro y5 μ6 μ12 h kx
    rw [f_X12_image_L20] at h
    cases h
  | succ n ih =>
    intro y5 μ6 μ12 h kx
    rw [f_X12_image_L20] at h
    refine z_iload_n C0 dX12_image_20 rfl 2 rfl ?_
    refine z_sipush (v := (1172 : Int32)) C0 dX12_image_21 (by decide) ?_
    refine z_icmp_ge C0 53 dX12_image_24 (by decide) (fun c7 => ?_) (fun c7 => ?_)
    · have h := zif_t c7 h
      refine z_sub (lo1 := []) [] rfl ?_
      obtain rfl := (Option.some.inj h)
      exact kx
    · have h := zif_f c7 h
      refine z_aload_n C0 dX12_image_27 rfl 0 rfl ?_
      refine z_getr C0 hU4 kf_12_7 zr_12_0 zx_12 (zs_12_0 hU4).1 dX12_image_28 ?_
      refine z_sipush (v := (1172 : Int32)) C0 dX12_image_31 (by decide) ?_
      refine z_iload_n C0 dX12_image_34 rfl 1 rfl ?_
      refine z_iconst (v := (1 : Int32)) C0 dX12_image_35 (by decide) ?_
      refine z_iadd C0 dX12_image_36 ?_
      refine z_imul C0 dX12_image_37 ?_
      refine z_iload_n C0 dX12_image_38 rfl 2 rfl ?_
      refine z_iadd C0 dX12_image_39 ?_
      refine z_aload_n C0 dX12_image_40 rfl 0 rfl ?_
      refine z_getr C0 hU4 kf_12_7 zr_12_0 zx_12 (zs_12_0 hU4).1 dX12_image_41 ?_
      refine z_iload_n C0 dX12_image_44 rfl 2 rfl ?_
      obtain ⟨g8, h⟩ := zg_of h
      refine z_iald C0 (zs_12_0 hU4).2 g8 rfl dX12_image_45 ?_
      obtain ⟨g9, h⟩ := zg_of h
      obtain ⟨μ10, e_μ10, h⟩ := zl_of h
      refine z_iast C0 (zs_12_0 hU4).2 g9 rfl e_μ10 dX12_image_46 ?_
      obtain ⟨x11, e_x11, h⟩ := zl_of h
      refine z_iinc (lo1 := [(2, .int x11), (0, .ref (zb g + a0)), (1, .int v1)]) C0 dX12_image_47 2 rfl (by decide) e_x11.symm (by decide) rfl ?_
      refine z_goto C0 20 dX12_image_50 (by decide) ?_
      refine z_sub (lo1 := [(0, .ref (zb g + a0)), (1, .int v1), (2, .int x11)]) [1, 2, 0] rfl ?_
      exact ih _ _ _ h kx
set_option maxHeartbeats 4000000 in
set_option maxRecDepth 100000 in
theorem r_X12_image {l : Launch} {g : zL} (a0 : Nat) (v1 : Int32) (μ : zM) (hT0 : zT zNN zσ1 a0 12) {rv : Int32} {μr : zM} (h : f_X12_image a0 v1 μ = some (rv, μr)) : zMet l g yX12_image cX12_image 3 (some (.boolean)) 1 0 0 zNN zNN zσ1 zσ1 [.ref (zb g + a0), .int v1] μ (some (.int rv)) μr := by
  refine zMet.of (by decide +kernel) (Nat.le_of_ble_eq_true rfl) ?_
  intro p e s m args below meth c C0
  refine z_loc (lo1 := [(0, .ref (zb g + a0)), (1, .int v1)]) rfl ?_
  unfold f_X12_image at h
  refine z_iload_n C0 dX12_image_0 rfl 1 rfl ?_
  refine z_iconst (v := (0 : Int32)) C0 dX12_image_1 (by decide) ?_
  refine z_iconst (v := (2 : Int32)) C0 dX12_image_2 (by decide) ?_
  refine z_callS (As := [.int v1, .int (0 : Int32), .int (2 : Int32)]) (rest := []) C0 rfl kc_X12_isIn km_RX12_109 (r_X12_isIn (l := l) (g := g) (μ := μ) v1 (0 : Int32) (2 : Int32) rfl) rfl (Nat.le_of_ble_eq_true rfl) (Nat.le_of_ble_eq_true rfl) (Nat.le_of_ble_eq_true rfl) (Nat.le_of_ble_eq_true rfl) (Nat.le_refl _) rfl rfl dX12_image_3 ?_
  refine z_if_ne C0 11 dX12_image_6 (by decide) (fun c1 => ?_) (fun c1 => ?_)
  · have h := zif_t c1 h
    refine z_aload_n C0 dX12_image_11 rfl 0 rfl ?_
    refine z_getr C0 hT0 kf_12_13 zr_12_1 zx_12 (zs_12_1 hT0).1 dX12_image_12 ?_
    refine z_iload_n C0 dX12_image_15 rfl 1 rfl ?_
    refine z_iconst (v := (1 : Int32)) C0 dX12_image_16 (by decide) ?_
    obtain ⟨g2, h⟩ := zg_of h
    obtain ⟨μ3, e_μ3, h⟩ := zl_of h
    refine z_bast C0 (zs_12_1 hT0).2 g2 rfl e_μ3 dX12_image_17 ?_
    refine z_iconst (v := (0 : Int32)) C0 dX12_image_18 (by decide) ?_
    refine z_istore_n (lo1 := [(2, .int (0 : Int32)), (0, .ref (zb g + a0)), (1, .int v1)]) C0 dX12_image_19 rfl (by decide) rfl ?_
    refine z_sub (lo1 := [(0, .ref (zb g + a0)), (1, .int v1), (2, .int (0 : Int32))]) [1, 2, 0] rfl ?_
    obtain ⟨μ12, e_μ12, h⟩ := zbd_of h
    refine r_X12_image_L20 C0 a0 v1 hT0 zFU (0 : Int32) μ3 μ12 e_μ12 ?_
    refine z_iconst (v := (1 : Int32)) C0 dX12_image_53 (by decide) ?_
    have h := Option.some.inj h
    obtain ⟨rfl, rfl⟩ := Prod.mk.inj h
    exact z_zret C0 rfl (by decide) dX12_image_54
  · have h := zif_f (fun q => q c1) h
    refine z_iconst (v := (0 : Int32)) C0 dX12_image_9 (by decide) ?_
    have h := Option.some.inj h
    obtain ⟨rfl, rfl⟩ := Prod.mk.inj h
    exact z_zret C0 rfl (by decide) dX12_image_10
def f_X12_isNear (a0 : Nat) (v1 : Int32) (v2 : Int32) (v3 : Int32) (v4 : Int32) (v5 : Int32) (v6 : Int32) (v7 : Int32) (μ : zM) : Option (Int32) :=
  zbd (f_X12_of a0 (2 : Int32) μ) fun r1 =>
  zbd (if v5 < (v1 + r1) then
      if v1 < (v5 + v3) then
        some (0 : Int32)
      else
        some (((v1 - v5) - v3) + (1 : Int32))
    else
      zbd (f_X12_of a0 (2 : Int32) μ) fun r6 =>
      some (((v5 - v1) - r6) + (1 : Int32))) fun x7 =>
  zbd (f_X12_of a0 (3 : Int32) μ) fun r8 =>
  zbd (if v6 < (v2 + r8) then
      if v2 < (v6 + v4) then
        some (0 : Int32)
      else
        some (((v2 - v6) - v4) + (1 : Int32))
    else
      zbd (f_X12_of a0 (3 : Int32) μ) fun r13 =>
      some (((v6 - v2) - r13) + (1 : Int32))) fun x14 =>
  zl (if v7 = 0 then
      (0 : Int32)
    else
      (1 : Int32)) fun x17 =>
  zl (if x17 < (x7 + x14) then
      (0 : Int32)
    else
      (1 : Int32)) fun x20 =>
  some x20
set_option maxHeartbeats 4000000 in
set_option maxRecDepth 100000 in
theorem r_X12_isNear {l : Launch} {g : zL} (a0 : Nat) (v1 : Int32) (v2 : Int32) (v3 : Int32) (v4 : Int32) (v5 : Int32) (v6 : Int32) (v7 : Int32) (μ : zM) (hT0 : zT zNN zσ1 a0 12) {rv : Int32} (h : f_X12_isNear a0 v1 v2 v3 v4 v5 v6 v7 μ = some rv) : zMet l g yX12_isNear cX12_isNear 10 (some (.boolean)) 1 0 0 zNN zNN zσ1 zσ1 [.ref (zb g + a0), .int v1, .int v2, .int v3, .int v4, .int v5, .int v6, .int v7] μ (some (.int rv)) μ := by
  refine zMet.of (by decide +kernel) (Nat.le_of_ble_eq_true rfl) ?_
  intro p e s m args below meth c C0
  refine z_loc (lo1 := [(0, .ref (zb g + a0)), (1, .int v1), (2, .int v2), (3, .int v3), (4, .int v4), (5, .int v5), (6, .int v6), (7, .int v7)]) rfl ?_
  unfold f_X12_isNear at h
  refine z_iload_n C0 dX12_isNear_0 rfl 1 rfl ?_
  refine z_aload_n C0 dX12_isNear_1 rfl 0 rfl ?_
  refine z_iconst (v := (2 : Int32)) C0 dX12_isNear_2 (by decide) ?_
  obtain ⟨r1, e_r1, h⟩ := zbd_of h
  refine z_callV (As := [.int (2 : Int32)]) (rest := [.int v1]) C0 rfl kc_X12_of km_RX12_180 (r_X12_of (l := l) (g := g) a0 (2 : Int32) μ hT0 e_r1) hT0.1 hT0.2.2.1 rfl (by decide) rfl (Nat.le_of_ble_eq_true rfl) (Nat.le_of_ble_eq_true rfl) (Nat.le_of_ble_eq_true rfl) (Nat.le_of_ble_eq_true rfl) (Nat.le_refl _) rfl rfl dX12_isNear_3 ?_
  refine z_iadd C0 dX12_isNear_6 ?_
  refine z_iload C0 dX12_isNear_7 5 rfl ?_
  obtain ⟨x7, e_x7, h⟩ := zbd_of h
  refine z_join μ 47 [(0, .ref (zb g + a0)), (2, .int v2), (4, .int v4), (6, .int v6), (7, .int v7)] [.int x7] ?_ (fun k_J4 => ?_)
  · refine z_istore (lo1 := [(8, .int x7), (0, .ref (zb g + a0)), (2, .int v2), (4, .int v4), (6, .int v6), (7, .int v7)]) C0 dX12_isNear_47 (by decide) rfl ?_
    refine z_iload_n C0 dX12_isNear_49 rfl 2 rfl ?_
    refine z_aload_n C0 dX12_isNear_50 rfl 1 rfl ?_
    refine z_iconst (v := (3 : Int32)) C0 dX12_isNear_51 (by decide) ?_
    obtain ⟨r8, e_r8, h⟩ := zbd_of h
    refine z_callV (As := [.int (3 : Int32)]) (rest := [.int v2]) C0 rfl kc_X12_of km_RX12_180 (r_X12_of (l := l) (g := g) a0 (3 : Int32) μ hT0 e_r8) hT0.1 hT0.2.2.1 rfl (by decide) rfl (Nat.le_of_ble_eq_true rfl) (Nat.le_of_ble_eq_true rfl) (Nat.le_of_ble_eq_true rfl) (Nat.le_of_ble_eq_true rfl) (Nat.le_refl _) rfl rfl dX12_isNear_52 ?_
    refine z_iadd C0 dX12_isNear_55 ?_
    refine z_iload C0 dX12_isNear_56 4 rfl ?_
    obtain ⟨x14, e_x14, h⟩ := zbd_of h
    refine z_join μ 98 [(7, .int v7), (8, .int x7)] [.int x14] ?_ (fun k_J11 => ?_)
    · refine z_istore (lo1 := [(9, .int x14), (7, .int v7), (8, .int x7)]) C0 dX12_isNear_98 (by decide) rfl ?_
      refine z_iload C0 dX12_isNear_100 2 rfl ?_
      refine z_iload C0 dX12_isNear_102 0 rfl ?_
      refine z_iadd C0 dX12_isNear_104 ?_
      refine z_iload C0 dX12_isNear_105 1 rfl ?_
      obtain ⟨x17, e_x17, h⟩ := zl_of h
      refine z_join μ 115 [] [.int x17, .int (x7 + x14)] ?_ (fun k_J16 => ?_)
      · obtain ⟨x20, e_x20, h⟩ := zl_of h
        refine z_join μ 123 [] [.int x20] ?_ (fun k_J19 => ?_)
        · have h := Option.some.inj h
          obtain rfl := h
          exact z_zret C0 rfl (by rw [e_x20]; repeat' split <;> rfl) dX12_isNear_123
        · have h := e_x20.symm
          refine z_icmp_gt C0 122 dX12_isNear_115 (by decide) (fun c18 => ?_) (fun c18 => ?_)
          · have h := zif_t c18 h
            refine z_iconst (v := (0 : Int32)) C0 dX12_isNear_122 (by decide) ?_
            obtain rfl := h
            exact k_J19
          · have h := zif_f c18 h
            refine z_iconst (v := (1 : Int32)) C0 dX12_isNear_118 (by decide) ?_
            refine z_goto C0 123 dX12_isNear_119 (by decide) ?_
            obtain rfl := h
            exact k_J19
      · have h := e_x17.symm
        refine z_if_eq C0 114 dX12_isNear_107 (by decide) (fun c15 => ?_) (fun c15 => ?_)
        · have h := zif_t c15 h
          refine z_iconst (v := (0 : Int32)) C0 dX12_isNear_114 (by decide) ?_
          refine z_sub (lo1 := []) [] rfl ?_
          obtain rfl := h
          exact k_J16
        · have h := zif_f c15 h
          refine z_iconst (v := (1 : Int32)) C0 dX12_isNear_110 (by decide) ?_
          refine z_goto C0 115 dX12_isNear_111 (by decide) ?_
          refine z_sub (lo1 := []) [] rfl ?_
          obtain rfl := h
          exact k_J16
    · have h := e_x14
      refine z_icmp_gt C0 76 dX12_isNear_58 (by decide) (fun c9 => ?_) (fun c9 => ?_)
      · have h := zif_t c9 h
        refine z_iload C0 dX12_isNear_76 4 rfl ?_
        refine z_iload C0 dX12_isNear_78 3 rfl ?_
        refine z_iadd C0 dX12_isNear_80 ?_
        refine z_iload_n C0 dX12_isNear_81 rfl 2 rfl ?_
        refine z_icmp_gt C0 97 dX12_isNear_82 (by decide) (fun c12 => ?_) (fun c12 => ?_)
        · have h := zif_t c12 h
          refine z_iconst (v := (0 : Int32)) C0 dX12_isNear_97 (by decide) ?_
          refine z_sub (lo1 := [(7, .int v7), (8, .int x7)]) [5, 0] rfl ?_
          obtain rfl := (Option.some.inj h)
          exact k_J11
        · have h := zif_f c12 h
          refine z_iload_n C0 dX12_isNear_85 rfl 2 rfl ?_
          refine z_iload C0 dX12_isNear_86 4 rfl ?_
          refine z_isub C0 dX12_isNear_88 ?_
          refine z_iload C0 dX12_isNear_89 3 rfl ?_
          refine z_isub C0 dX12_isNear_91 ?_
          refine z_iconst (v := (1 : Int32)) C0 dX12_isNear_92 (by decide) ?_
          refine z_iadd C0 dX12_isNear_93 ?_
          refine z_goto C0 98 dX12_isNear_94 (by decide) ?_
          refine z_sub (lo1 := [(7, .int v7), (8, .int x7)]) [5, 0] rfl ?_
          obtain rfl := (Option.some.inj h)
          exact k_J11
      · have h := zif_f c9 h
        refine z_iload C0 dX12_isNear_61 4 rfl ?_
        refine z_iload_n C0 dX12_isNear_63 rfl 2 rfl ?_
        refine z_isub C0 dX12_isNear_64 ?_
        refine z_aload_n C0 dX12_isNear_65 rfl 1 rfl ?_
        refine z_iconst (v := (3 : Int32)) C0 dX12_isNear_66 (by decide) ?_
        obtain ⟨r13, e_r13, h⟩ := zbd_of h
        refine z_callV (As := [.int (3 : Int32)]) (rest := [.int (v6 - v2)]) C0 rfl kc_X12_of km_RX12_180 (r_X12_of (l := l) (g := g) a0 (3 : Int32) μ hT0 e_r13) hT0.1 hT0.2.2.1 rfl (by decide) rfl (Nat.le_of_ble_eq_true rfl) (Nat.le_of_ble_eq_true rfl) (Nat.le_of_ble_eq_true rfl) (Nat.le_of_ble_eq_true rfl) (Nat.le_refl _) rfl rfl dX12_isNear_67 ?_
        refine z_isub C0 dX12_isNear_70 ?_
        refine z_iconst (v := (1 : Int32)) C0 dX12_isNear_71 (by decide) ?_
        refine z_iadd C0 dX12_isNear_72 ?_
        refine z_goto C0 98 dX12_isNear_73 (by decide) ?_
        refine z_sub (lo1 := [(7, .int v7), (8, .int x7)]) [5, 0] rfl ?_
        obtain rfl := (Option.some.inj h)
        exact k_J11
  · have h := e_x7
    refine z_icmp_gt C0 27 dX12_isNear_9 (by decide) (fun c2 => ?_) (fun c2 => ?_)
    · have h := zif_t c2 h
      refine z_iload C0 dX12_isNear_27 5 rfl ?_
      refine z_iload_n C0 dX12_isNear_29 rfl 3 rfl ?_
      refine z_iadd C0 dX12_isNear_30 ?_
      refine z_iload_n C0 dX12_isNear_31 rfl 1 rfl ?_
      refine z_icmp_gt C0 46 dX12_isNear_32 (by decide) (fun c5 => ?_) (fun c5 => ?_)
      · have h := zif_t c5 h
        refine z_iconst (v := (0 : Int32)) C0 dX12_isNear_46 (by decide) ?_
        refine z_sub (lo1 := [(0, .ref (zb g + a0)), (2, .int v2), (4, .int v4), (6, .int v6), (7, .int v7)]) [0, 2, 4, 6, 7] rfl ?_
        obtain rfl := (Option.some.inj h)
        exact k_J4
      · have h := zif_f c5 h
        refine z_iload_n C0 dX12_isNear_35 rfl 1 rfl ?_
        refine z_iload C0 dX12_isNear_36 5 rfl ?_
        refine z_isub C0 dX12_isNear_38 ?_
        refine z_iload_n C0 dX12_isNear_39 rfl 3 rfl ?_
        refine z_isub C0 dX12_isNear_40 ?_
        refine z_iconst (v := (1 : Int32)) C0 dX12_isNear_41 (by decide) ?_
        refine z_iadd C0 dX12_isNear_42 ?_
        refine z_goto C0 47 dX12_isNear_43 (by decide) ?_
        refine z_sub (lo1 := [(0, .ref (zb g + a0)), (2, .int v2), (4, .int v4), (6, .int v6), (7, .int v7)]) [0, 2, 4, 6, 7] rfl ?_
        obtain rfl := (Option.some.inj h)
        exact k_J4
    · have h := zif_f c2 h
      refine z_iload C0 dX12_isNear_12 5 rfl ?_
      refine z_iload_n C0 dX12_isNear_14 rfl 1 rfl ?_
      refine z_isub C0 dX12_isNear_15 ?_
      refine z_aload_n C0 dX12_isNear_16 rfl 0 rfl ?_
      refine z_iconst (v := (2 : Int32)) C0 dX12_isNear_17 (by decide) ?_
      obtain ⟨r6, e_r6, h⟩ := zbd_of h
      refine z_callV (As := [.int (2 : Int32)]) (rest := [.int (v5 - v1)]) C0 rfl kc_X12_of km_RX12_180 (r_X12_of (l := l) (g := g) a0 (2 : Int32) μ hT0 e_r6) hT0.1 hT0.2.2.1 rfl (by decide) rfl (Nat.le_of_ble_eq_true rfl) (Nat.le_of_ble_eq_true rfl) (Nat.le_of_ble_eq_true rfl) (Nat.le_of_ble_eq_true rfl) (Nat.le_refl _) rfl rfl dX12_isNear_18 ?_
      refine z_isub C0 dX12_isNear_21 ?_
      refine z_iconst (v := (1 : Int32)) C0 dX12_isNear_22 (by decide) ?_
      refine z_iadd C0 dX12_isNear_23 ?_
      refine z_goto C0 47 dX12_isNear_24 (by decide) ?_
      refine z_sub (lo1 := [(0, .ref (zb g + a0)), (2, .int v2), (4, .int v4), (6, .int v6), (7, .int v7)]) [0, 2, 4, 6, 7] rfl ?_
      obtain rfl := (Option.some.inj h)
      exact k_J4
def f_X12_isRest_L5 (a0 : Nat) (v1 : Int32) (v2 : Int32) : Nat → Int32 → Int32 → zM → Option (Int32 × zM)
  | 0, _, _, _ => none
  | n + 1, y2, y3, μ4 =>
    if (3 : Int32) ≤ y3 then
      some (y2, μ4)
    else
      zbd2 (if y2 = 0 then
          some ((0 : Int32), μ4)
        else
          zbd2 (f_X12_gainOf a0 v1 (((3 : Int32) * y3) + (v2 % (3 : Int32))) (0 : Int32) μ4) fun r9 μ10 =>
          zbd2 (f_X12_gainOf a0 v1 v2 (0 : Int32) μ10) fun r11 μ12 =>
          if r11 < r9 then
            some ((0 : Int32), μ12)
          else
            zbd2 (f_X12_gainOf a0 v1 (((3 : Int32) * (v2 / (3 : Int32))) + y3) (1 : Int32) μ12) fun r14 μ15 =>
            zbd2 (f_X12_gainOf a0 v1 v2 (1 : Int32) μ15) fun r16 μ17 =>
            if r16 < r14 then
              some ((0 : Int32), μ17)
            else
              some ((1 : Int32), μ17)) fun x19 μ20 =>
      zl (y3 + (1 : Int32)) fun x21 =>
      f_X12_isRest_L5 a0 v1 v2 n x19 x21 μ20
def f_X12_isRest (a0 : Nat) (v1 : Int32) (v2 : Int32) (μ : zM) : Option (Int32 × zM) :=
  zbd2 (f_X12_isRest_L5 a0 v1 v2 zFU (1 : Int32) (0 : Int32) μ) fun x22 μ23 =>
  zg (z01 x22) <|
  some (x22, μ23)
set_option maxHeartbeats 4000000 in
set_option maxRecDepth 100000 in
theorem r_X12_isRest_L5 {l : Launch} {g : zL} {p : Program} {e : Env} {s : State} {m : MethodId} {args : Array Value} {below : List Frame} {meth : Method} {c : Code} {Q : State → Prop} (C0 : zC p s m args meth c g cX12_isRest yX12_isRest 5 (some (.boolean))) (a0 : Nat) (v1 : Int32) (v2 : Int32) (hU1 : zT zNN zσ1 a0 12) : ∀ (n : Nat) (y2 : Int32) (y3 : Int32) (μ4 : zM) (x22 : Int32) (μ23 : zM), f_X12_isRest_L5 a0 v1 v2 n y2 y3 μ4 = some (x22, μ23) → Z p l e (zrm 7 0 0) s m args below meth c g Q 5 zNN 0 0 zσ1 μ23 75 [(3, .int x22)] [] → Z p l e (zrm 7 0 0) s m args below meth c g Q 5 zNN 0 0 zσ1 μ4 5 [(0, .ref (zb g + a0)), (1, .int v1), (2, .int v2), (3, .int y2), (4, .int y3)] [] := by
  intro n
  induction n with
  | zero =>
    intro y2 y3 μ4 x22 μ23 h kx
    rw [f_X12_isRest_L5] at h
    cases h
  | succ n ih =>
    intro y2 y3 μ4 x22 μ23 h kx
    rw [f_X12_isRest_L5] at h
    refine z_iload C0 dX12_isRest_5 4 rfl ?_
    refine z_iconst (v := (3 : Int32)) C0 dX12_isRest_7 (by decide) ?_
    refine z_icmp_ge C0 75 dX12_isRest_8 (by decide) (fun c5 => ?_) (fun c5 => ?_)
    · have h := zif_t c5 h
      refine z_sub (lo1 := [(3, .int y2)]) [3] rfl ?_
      obtain ⟨rfl, rfl⟩ := Prod.mk.inj (Option.some.inj h)
      exact kx
    · have h := zif_f c5 h
      refine z_iload_n C0 dX12_isRest_11 rfl 3 rfl ?_
      obtain ⟨x19, μ20, e_x19, h⟩ := zbd2_of h
      refine z_join μ20 68 [(0, .ref (zb g + a0)), (1, .int v1), (2, .int v2), (4, .int y3)] [.int x19] ?_ (fun k_J8 => ?_)
      · refine z_istore_n (lo1 := [(3, .int x19), (0, .ref (zb g + a0)), (1, .int v1), (2, .int v2), (4, .int y3)]) C0 dX12_isRest_68 rfl (by decide) rfl ?_
        obtain ⟨x21, e_x21, h⟩ := zl_of h
        refine z_iinc (lo1 := [(4, .int x21), (3, .int x19), (0, .ref (zb g + a0)), (1, .int v1), (2, .int v2)]) C0 dX12_isRest_69 4 rfl (by decide) e_x21.symm (by decide) rfl ?_
        refine z_goto C0 5 dX12_isRest_72 (by decide) ?_
        refine z_sub (lo1 := [(0, .ref (zb g + a0)), (1, .int v1), (2, .int v2), (3, .int x19), (4, .int x21)]) [2, 3, 4, 1, 0] rfl ?_
        exact ih _ _ _ _ _ h kx
      · have h := e_x19
        refine z_if_eq C0 67 dX12_isRest_12 (by decide) (fun c7 => ?_) (fun c7 => ?_)
        · have h := zif_t c7 h
          refine z_iconst (v := (0 : Int32)) C0 dX12_isRest_67 (by decide) ?_
          refine z_sub (lo1 := [(0, .ref (zb g + a0)), (1, .int v1), (2, .int v2), (4, .int y3)]) [0, 1, 2, 4] rfl ?_
          obtain ⟨rfl, rfl⟩ := Prod.mk.inj (Option.some.inj h)
          exact k_J8
        · have h := zif_f c7 h
          refine z_aload_n C0 dX12_isRest_15 rfl 0 rfl ?_
          refine z_iload_n C0 dX12_isRest_16 rfl 1 rfl ?_
          refine z_iconst (v := (3 : Int32)) C0 dX12_isRest_17 (by decide) ?_
          refine z_iload C0 dX12_isRest_18 4 rfl ?_
          refine z_imul C0 dX12_isRest_20 ?_
          refine z_iload_n C0 dX12_isRest_21 rfl 2 rfl ?_
          refine z_iconst (v := (3 : Int32)) C0 dX12_isRest_22 (by decide) ?_
          refine z_irem C0 dX12_isRest_23 (by decide) ?_
          refine z_iadd C0 dX12_isRest_24 ?_
          refine z_iconst (v := (0 : Int32)) C0 dX12_isRest_25 (by decide) ?_
          obtain ⟨r9, μ10, e_r9, h⟩ := zbd2_of h
          refine z_callV (As := [.int v1, .int (((3 : Int32) * y3) + (v2 % (3 : Int32))), .int (0 : Int32)]) (rest := []) C0 rfl kc_X12_gainOf km_RX12_360 (r_X12_gainOf (l := l) (g := g) a0 v1 (((3 : Int32) * y3) + (v2 % (3 : Int32))) (0 : Int32) μ4 hU1 e_r9) hU1.1 hU1.2.2.1 rfl (by decide) rfl (Nat.le_of_ble_eq_true rfl) (Nat.le_of_ble_eq_true rfl) (Nat.le_of_ble_eq_true rfl) (Nat.le_of_ble_eq_true rfl) (Nat.le_refl _) rfl rfl dX12_isRest_26 ?_
          refine z_aload_n C0 dX12_isRest_29 rfl 0 rfl ?_
          refine z_iload_n C0 dX12_isRest_30 rfl 1 rfl ?_
          refine z_iload_n C0 dX12_isRest_31 rfl 2 rfl ?_
          refine z_iconst (v := (0 : Int32)) C0 dX12_isRest_32 (by decide) ?_
          obtain ⟨r11, μ12, e_r11, h⟩ := zbd2_of h
          refine z_callV (As := [.int v1, .int v2, .int (0 : Int32)]) (rest := [.int r9]) C0 rfl kc_X12_gainOf km_RX12_360 (r_X12_gainOf (l := l) (g := g) a0 v1 v2 (0 : Int32) μ10 hU1 e_r11) hU1.1 hU1.2.2.1 rfl (by decide) rfl (Nat.le_of_ble_eq_true rfl) (Nat.le_of_ble_eq_true rfl) (Nat.le_of_ble_eq_true rfl) (Nat.le_of_ble_eq_true rfl) (Nat.le_refl _) rfl rfl dX12_isRest_33 ?_
          refine z_icmp_gt C0 67 dX12_isRest_36 (by decide) (fun c13 => ?_) (fun c13 => ?_)
          · have h := zif_t c13 h
            refine z_iconst (v := (0 : Int32)) C0 dX12_isRest_67 (by decide) ?_
            refine z_sub (lo1 := [(0, .ref (zb g + a0)), (1, .int v1), (2, .int v2), (4, .int y3)]) [0, 1, 2, 4] rfl ?_
            obtain ⟨rfl, rfl⟩ := Prod.mk.inj (Option.some.inj h)
            exact k_J8
          · have h := zif_f c13 h
            refine z_aload_n C0 dX12_isRest_39 rfl 0 rfl ?_
            refine z_iload_n C0 dX12_isRest_40 rfl 1 rfl ?_
            refine z_iconst (v := (3 : Int32)) C0 dX12_isRest_41 (by decide) ?_
            refine z_iload_n C0 dX12_isRest_42 rfl 2 rfl ?_
            refine z_iconst (v := (3 : Int32)) C0 dX12_isRest_43 (by decide) ?_
            refine z_idiv C0 dX12_isRest_44 (by decide) ?_
            refine z_imul C0 dX12_isRest_45 ?_
            refine z_iload C0 dX12_isRest_46 4 rfl ?_
            refine z_iadd C0 dX12_isRest_48 ?_
            refine z_iconst (v := (1 : Int32)) C0 dX12_isRest_49 (by decide) ?_
            obtain ⟨r14, μ15, e_r14, h⟩ := zbd2_of h
            refine z_callV (As := [.int v1, .int (((3 : Int32) * (v2 / (3 : Int32))) + y3), .int (1 : Int32)]) (rest := []) C0 rfl kc_X12_gainOf km_RX12_360 (r_X12_gainOf (l := l) (g := g) a0 v1 (((3 : Int32) * (v2 / (3 : Int32))) + y3) (1 : Int32) μ12 hU1 e_r14) hU1.1 hU1.2.2.1 rfl (by decide) rfl (Nat.le_of_ble_eq_true rfl) (Nat.le_of_ble_eq_true rfl) (Nat.le_of_ble_eq_true rfl) (Nat.le_of_ble_eq_true rfl) (Nat.le_refl _) rfl rfl dX12_isRest_50 ?_
            refine z_aload_n C0 dX12_isRest_53 rfl 0 rfl ?_
            refine z_iload_n C0 dX12_isRest_54 rfl 1 rfl ?_
            refine z_iload_n C0 dX12_isRest_55 rfl 2 rfl ?_
            refine z_iconst (v := (1 : Int32)) C0 dX12_isRest_56 (by decide) ?_
            obtain ⟨r16, μ17, e_r16, h⟩ := zbd2_of h
            refine z_callV (As := [.int v1, .int v2, .int (1 : Int32)]) (rest := [.int r14]) C0 rfl kc_X12_gainOf km_RX12_360 (r_X12_gainOf (l := l) (g := g) a0 v1 v2 (1 : Int32) μ15 hU1 e_r16) hU1.1 hU1.2.2.1 rfl (by decide) rfl (Nat.le_of_ble_eq_true rfl) (Nat.le_of_ble_eq_true rfl) (Nat.le_of_ble_eq_true rfl) (Nat.le_of_ble_eq_true rfl) (Nat.le_refl _) rfl rfl dX12_isRest_57 ?_
            refine z_icmp_gt C0 67 dX12_isRest_60 (by decide) (fun c18 => ?_) (fun c18 => ?_)
            · have h := zif_t c18 h
              refine z_iconst (v := (0 : Int32)) C0 dX12_isRest_67 (by decide) ?_
              refine z_sub (lo1 := [(0, .ref (zb g + a0)), (1, .int v1), (2, .int v2), (4, .int y3)]) [0, 1, 2, 4] rfl ?_
              obtain ⟨rfl, rfl⟩ := Prod.mk.inj (Option.some.inj h)
              exact k_J8
            · have h := zif_f c18 h
              refine z_iconst (v := (1 : Int32)) C0 dX12_isRest_63 (by decide) ?_
              refine z_goto C0 68 dX12_isRest_64 (by decide) ?_
              refine z_sub (lo1 := [(0, .ref (zb g + a0)), (1, .int v1), (2, .int v2), (4, .int y3)]) [0, 1, 2, 4] rfl ?_
              obtain ⟨rfl, rfl⟩ := Prod.mk.inj (Option.some.inj h)
              exact k_J8
set_option maxHeartbeats 4000000 in
set_option maxRecDepth 100000 in
theorem r_X12_isRest {l : Launch} {g : zL} (a0 : Nat) (v1 : Int32) (v2 : Int32) (μ : zM) (hT0 : zT zNN zσ1 a0 12) {rv : Int32} {μr : zM} (h : f_X12_isRest a0 v1 v2 μ = some (rv, μr)) : zMet l g yX12_isRest cX12_isRest 5 (some (.boolean)) 7 0 0 zNN zNN zσ1 zσ1 [.ref (zb g + a0), .int v1, .int v2] μ (some (.int rv)) μr := by
  refine zMet.of (by decide +kernel) (Nat.le_of_ble_eq_true rfl) ?_
  intro p e s m args below meth c C0
  refine z_loc (lo1 := [(0, .ref (zb g + a0)), (1, .int v1), (2, .int v2)]) rfl ?_
  unfold f_X12_isRest at h
  refine z_iconst (v := (1 : Int32)) C0 dX12_isRest_0 (by decide) ?_
  refine z_istore_n (lo1 := [(3, .int (1 : Int32)), (0, .ref (zb g + a0)), (1, .int v1), (2, .int v2)]) C0 dX12_isRest_1 rfl (by decide) rfl ?_
  refine z_iconst (v := (0 : Int32)) C0 dX12_isRest_2 (by decide) ?_
  refine z_istore (lo1 := [(4, .int (0 : Int32)), (3, .int (1 : Int32)), (0, .ref (zb g + a0)), (1, .int v1), (2, .int v2)]) C0 dX12_isRest_3 (by decide) rfl ?_
  refine z_sub (lo1 := [(0, .ref (zb g + a0)), (1, .int v1), (2, .int v2), (3, .int (1 : Int32)), (4, .int (0 : Int32))]) [2, 3, 4, 1, 0] rfl ?_
  obtain ⟨x22, μ23, e_x22, h⟩ := zbd2_of h
  refine r_X12_isRest_L5 C0 a0 v1 v2 hT0 zFU (1 : Int32) (0 : Int32) μ x22 μ23 e_x22 ?_
  refine z_iload_n C0 dX12_isRest_75 rfl 0 rfl ?_
  obtain ⟨g24, h⟩ := zg_of h
  have h := Option.some.inj h
  obtain ⟨rfl, rfl⟩ := Prod.mk.inj h
  exact z_zret C0 rfl g24 dX12_isRest_76
def f_X12_keel_L6 (a0 : Nat) (μ5 : zM) : Nat → Int32 → Int32 → Int32 → Option (Int32)
  | 0, _, _, _ => none
  | n + 1, y2, y3, y4 =>
    zbd (f_X12_of a0 (12 : Int32) μ5) fun r6 =>
    if r6 ≤ y4 then
      some y2
    else
      zbd (f_X12_gravesList a0 (0 : Int32) y4 μ5) fun r8 =>
      zbd (f_X12_gravesList a0 (1 : Int32) y4 μ5) fun r9 =>
      zl ((f_X12_size r8) + (f_X12_size r9)) fun x10 =>
      zl2 (if (y2 < 0) ∨ (x10 < y3) then
          (y4, x10)
        else
          (y2, y3)) fun x14 x15 =>
      zl (y4 + (1 : Int32)) fun x16 =>
      f_X12_keel_L6 a0 μ5 n x14 x15 x16
def f_X12_keel (a0 : Nat) (μ : zM) : Option (Int32) :=
  zbd (f_X12_keel_L6 a0 μ zFU (-1 : Int32) (0 : Int32) (0 : Int32)) fun x17 =>
  some x17
set_option maxHeartbeats 4000000 in
set_option maxRecDepth 100000 in
theorem r_X12_keel_L6 {l : Launch} {g : zL} {p : Program} {e : Env} {s : State} {m : MethodId} {args : Array Value} {below : List Frame} {meth : Method} {c : Code} {Q : State → Prop} (C0 : zC p s m args meth c g cX12_keel yX12_keel 5 (some (.int))) (a0 : Nat) (μ5 : zM) (hU1 : zT zNN zσ1 a0 12) : ∀ (n : Nat) (y2 : Int32) (y3 : Int32) (y4 : Int32) (x17 : Int32), f_X12_keel_L6 a0 μ5 n y2 y3 y4 = some x17 → Z p l e (zrm 3 0 0) s m args below meth c g Q 5 zNN 0 0 zσ1 μ5 61 [(1, .int x17)] [] → Z p l e (zrm 3 0 0) s m args below meth c g Q 5 zNN 0 0 zσ1 μ5 6 [(0, .ref (zb g + a0)), (1, .int y2), (2, .int y3), (3, .int y4)] [] := by
  intro n
  induction n with
  | zero =>
    intro y2 y3 y4 x17 h kx
    rw [f_X12_keel_L6] at h
    cases h
  | succ n ih =>
    intro y2 y3 y4 x17 h kx
    rw [f_X12_keel_L6] at h
    refine z_iload_n C0 dX12_keel_6 rfl 3 rfl ?_
    refine z_aload_n C0 dX12_keel_7 rfl 0 rfl ?_
    refine z_bipush (v := (12 : Int32)) C0 dX12_keel_8 (by decide) ?_
    obtain ⟨r6, e_r6, h⟩ := zbd_of h
    refine z_callV (As := [.int (12 : Int32)]) (rest := [.int y4]) C0 rfl kc_X12_of km_RX12_180 (r_X12_of (l := l) (g := g) a0 (12 : Int32) μ5 hU1 e_r6) hU1.1 hU1.2.2.1 rfl (by decide) rfl (Nat.le_of_ble_eq_true rfl) (Nat.le_of_ble_eq_true rfl) (Nat.le_of_ble_eq_true rfl) (Nat.le_of_ble_eq_true rfl) (Nat.le_refl _) rfl rfl dX12_keel_10 ?_
    refine z_icmp_ge C0 61 dX12_keel_13 (by decide) (fun c7 => ?_) (fun c7 => ?_)
    · have h := zif_t c7 h
      refine z_sub (lo1 := [(1, .int y2)]) [1] rfl ?_
      obtain rfl := (Option.some.inj h)
      exact kx
    · have h := zif_f c7 h
      refine z_aload_n C0 dX12_keel_16 rfl 0 rfl ?_
      refine z_iconst (v := (0 : Int32)) C0 dX12_keel_17 (by decide) ?_
      refine z_iload_n C0 dX12_keel_18 rfl 3 rfl ?_
      obtain ⟨r8, e_r8, h⟩ := zbd_of h
      refine z_callV (As := [.int (0 : Int32), .int y4]) (rest := []) C0 rfl kc_X12_gravesList km_RX12_254 (r_X12_gravesList (l := l) (g := g) a0 (0 : Int32) y4 μ5 hU1 e_r8) hU1.1 hU1.2.2.1 rfl (by decide) rfl (Nat.le_of_ble_eq_true rfl) (Nat.le_of_ble_eq_true rfl) (Nat.le_of_ble_eq_true rfl) (Nat.le_of_ble_eq_true rfl) (Nat.le_refl _) rfl rfl dX12_keel_19 ?_
      refine z_callS (As := [.int r8]) (rest := []) C0 rfl kc_X12_size km_RX12_195 (r_X12_size (l := l) (g := g) (μ := μ5) r8 rfl) rfl (Nat.le_of_ble_eq_true rfl) (Nat.le_of_ble_eq_true rfl) (Nat.le_of_ble_eq_true rfl) (Nat.le_of_ble_eq_true rfl) (Nat.le_refl _) rfl rfl dX12_keel_22 ?_
      refine z_aload_n C0 dX12_keel_25 rfl 0 rfl ?_
      refine z_iconst (v := (1 : Int32)) C0 dX12_keel_26 (by decide) ?_
      refine z_iload_n C0 dX12_keel_27 rfl 3 rfl ?_
      obtain ⟨r9, e_r9, h⟩ := zbd_of h
      refine z_callV (As := [.int (1 : Int32), .int y4]) (rest := [.int (f_X12_size r8)]) C0 rfl kc_X12_gravesList km_RX12_254 (r_X12_gravesList (l := l) (g := g) a0 (1 : Int32) y4 μ5 hU1 e_r9) hU1.1 hU1.2.2.1 rfl (by decide) rfl (Nat.le_of_ble_eq_true rfl) (Nat.le_of_ble_eq_true rfl) (Nat.le_of_ble_eq_true rfl) (Nat.le_of_ble_eq_true rfl) (Nat.le_refl _) rfl rfl dX12_keel_28 ?_
      refine z_callS (As := [.int r9]) (rest := [.int (f_X12_size r8)]) C0 rfl kc_X12_size km_RX12_195 (r_X12_size (l := l) (g := g) (μ := μ5) r9 rfl) rfl (Nat.le_of_ble_eq_true rfl) (Nat.le_of_ble_eq_true rfl) (Nat.le_of_ble_eq_true rfl) (Nat.le_of_ble_eq_true rfl) (Nat.le_refl _) rfl rfl dX12_keel_31 ?_
      refine z_iadd C0 dX12_keel_34 ?_
      obtain ⟨x10, e_x10, h⟩ := zl_of h
      refine z_nm e_x10 ?_
      refine z_istore (lo1 := [(4, .int x10), (0, .ref (zb g + a0)), (1, .int y2), (2, .int y3), (3, .int y4)]) C0 dX12_keel_35 (by decide) rfl ?_
      refine z_iload_n C0 dX12_keel_37 rfl 2 rfl ?_
      obtain ⟨x14, x15, e_x14, h⟩ := zl2_of h
      refine z_join μ5 55 [(0, .ref (zb g + a0)), (1, .int x14), (2, .int x15), (3, .int y4)] [] ?_ (fun k_J13 => ?_)
      · obtain ⟨x16, e_x16, h⟩ := zl_of h
        refine z_iinc (lo1 := [(3, .int x16), (0, .ref (zb g + a0)), (1, .int x14), (2, .int x15)]) C0 dX12_keel_55 3 rfl (by decide) e_x16.symm (by decide) rfl ?_
        refine z_goto C0 6 dX12_keel_58 (by decide) ?_
        refine z_sub (lo1 := [(0, .ref (zb g + a0)), (1, .int x14), (2, .int x15), (3, .int x16)]) [1, 2, 3, 0] rfl ?_
        exact ih _ _ _ _ h kx
      · have h := e_x14
        by_cases hc18 : (y2 < 0) ∨ (x10 < y3)
        · have h := zif_t hc18 h
          refine z_join μ5 50 [(4, .int x10), (0, .ref (zb g + a0)), (1, .int y2), (2, .int y3), (3, .int y4)] [] ?_ (fun k19 => ?_)
          · refine z_iload_n C0 dX12_keel_50 rfl 4 rfl ?_
            refine z_istore_n (lo1 := [(1, .int y4), (4, .int x10), (0, .ref (zb g + a0)), (2, .int y3), (3, .int y4)]) C0 dX12_keel_51 rfl (by decide) rfl ?_
            refine z_iload C0 dX12_keel_52 1 rfl ?_
            refine z_istore_n (lo1 := [(2, .int x10), (1, .int y4), (4, .int x10), (0, .ref (zb g + a0)), (3, .int y4)]) C0 dX12_keel_54 rfl (by decide) rfl ?_
            refine z_sub (lo1 := [(0, .ref (zb g + a0)), (1, .int y4), (2, .int x10), (3, .int y4)]) [3, 1, 0, 4] rfl ?_
            obtain ⟨rfl, rfl⟩ := Prod.mk.inj h
            exact k_J13
          · refine z_if_lt C0 50 dX12_keel_38 (by decide) (fun c11 => ?_) (fun c11 => ?_)
            · exact k19
            · refine z_iload C0 dX12_keel_41 0 rfl ?_
              refine z_iload_n C0 dX12_keel_43 rfl 3 rfl ?_
              refine z_icmp_lt C0 50 dX12_keel_44 (by decide) (fun c12 => ?_) (fun c12 => ?_)
              · exact k19
              · exact absurd hc18 (fun q => q.elim c11 c12)
        · have h := zif_f hc18 h
          refine z_join μ5 55 [(4, .int x10), (0, .ref (zb g + a0)), (1, .int y2), (2, .int y3), (3, .int y4)] [] ?_ (fun k20 => ?_)
          · refine z_sub (lo1 := [(0, .ref (zb g + a0)), (1, .int y2), (2, .int y3), (3, .int y4)]) [1, 2, 3, 4] rfl ?_
            obtain ⟨rfl, rfl⟩ := Prod.mk.inj h
            exact k_J13
          · refine z_if_lt C0 50 dX12_keel_38 (by decide) (fun c11 => ?_) (fun c11 => ?_)
            · exact absurd (Or.inl c11) hc18
            · refine z_iload C0 dX12_keel_41 0 rfl ?_
              refine z_iload_n C0 dX12_keel_43 rfl 3 rfl ?_
              refine z_icmp_lt C0 50 dX12_keel_44 (by decide) (fun c12 => ?_) (fun c12 => ?_)
              · exact absurd (Or.inr c12) hc18
              · refine z_goto C0 55 dX12_keel_47 (by decide) ?_
                exact k20
set_option maxHeartbeats 4000000 in
set_option maxRecDepth 100000 in
theorem r_X12_keel {l : Launch} {g : zL} (a0 : Nat) (μ : zM) (hT0 : zT zNN zσ1 a0 12) {rv : Int32} (h : f_X12_keel a0 μ = some rv) : zMet l g yX12_keel cX12_keel 5 (some (.int)) 3 0 0 zNN zNN zσ1 zσ1 [.ref (zb g + a0)] μ (some (.int rv)) μ := by
  refine zMet.of (by decide +kernel) (Nat.le_of_ble_eq_true rfl) ?_
  intro p e s m args below meth c C0
  refine z_loc (lo1 := [(0, .ref (zb g + a0))]) rfl ?_
  unfold f_X12_keel at h
  refine z_iconst (v := (-1 : Int32)) C0 dX12_keel_0 (by decide) ?_
  refine z_istore_n (lo1 := [(1, .int (-1 : Int32)), (0, .ref (zb g + a0))]) C0 dX12_keel_1 rfl (by decide) rfl ?_
  refine z_iconst (v := (0 : Int32)) C0 dX12_keel_2 (by decide) ?_
  refine z_istore_n (lo1 := [(2, .int (0 : Int32)), (1, .int (-1 : Int32)), (0, .ref (zb g + a0))]) C0 dX12_keel_3 rfl (by decide) rfl ?_
  refine z_iconst (v := (0 : Int32)) C0 dX12_keel_4 (by decide) ?_
  refine z_istore_n (lo1 := [(3, .int (0 : Int32)), (2, .int (0 : Int32)), (1, .int (-1 : Int32)), (0, .ref (zb g + a0))]) C0 dX12_keel_5 rfl (by decide) rfl ?_
  refine z_sub (lo1 := [(0, .ref (zb g + a0)), (1, .int (-1 : Int32)), (2, .int (0 : Int32)), (3, .int (0 : Int32))]) [3, 2, 1, 0] rfl ?_
  obtain ⟨x17, e_x17, h⟩ := zbd_of h
  refine r_X12_keel_L6 C0 a0 μ hT0 zFU (-1 : Int32) (0 : Int32) (0 : Int32) x17 e_x17 ?_
  refine z_iload_n C0 dX12_keel_61 rfl 0 rfl ?_
  have h := Option.some.inj h
  obtain rfl := h
  exact z_iret C0 rfl dX12_keel_62
def f_X12_lake (a0 : Nat) (v1 : Int32) (v2 : Int32) (μ : zM) : Option (Int32 × zM) :=
  zbd2 (f_X12_isLake a0 v1 μ) fun r1 μ2 =>
  if ¬ r1 = 0 then
    if (f_X12_isIn v2 (0 : Int32) (15 : Int32)) = 0 then
      if (f_X12_isIn v2 (20 : Int32) (59 : Int32)) = 0 then
        if (f_X12_isIn v2 (60 : Int32) (99 : Int32)) = 0 then
          zl (v2 % (10 : Int32)) fun x13 =>
          if (f_X12_isIn v2 (100 : Int32) (109 : Int32)) = 0 then
            if (f_X12_isIn v2 (110 : Int32) (139 : Int32)) = 0 then
              zbd (zbd (if (f_X12_isIn v2 (140 : Int32) (159 : Int32)) = 0 then
                    some false
                  else
                    zbd (f_X12_of a0 (15 : Int32) μ2) fun r38 =>
                    if r38 ≤ x13 then
                      some false
                    else
                      some true) fun b40 =>
                if b40 = true then
                  zbd (f_X12_of a0 ((((101 : Int32) + ((2 : Int32) * x13)) + (v2 / (10 : Int32))) - (14 : Int32)) μ2) fun r42 =>
                  some r42
                else
                  some (-1 : Int32)) fun x43 =>
              some (x43, μ2)
            else
              zbd (f_X12_mourners a0 μ2) fun r44 =>
              zbd (if r44 ≤ x13 then
                  some (-1 : Int32)
                else
                  zbd (f_X12_ofMourner a0 x13 ((v2 / (10 : Int32)) - (11 : Int32)) μ2) fun r47 =>
                  some r47) fun x48 =>
              some (x48, μ2)
          else
            zbd (f_X12_of a0 (13 : Int32) μ2) fun r49 =>
            zbd (if r49 ≤ x13 then
                some (-1 : Int32)
              else
                zbd (f_X12_of a0 ((80 : Int32) + x13) μ2) fun r52 =>
                some r52) fun x53 =>
            some (x53, μ2)
        else
          zl ((v2 - (60 : Int32)) % (20 : Int32)) fun x54 =>
          zbd (f_X12_of a0 (12 : Int32) μ2) fun r55 =>
          zbd (if r55 ≤ x54 then
              some (-1 : Int32)
            else
              zbd (f_X12_of a0 (((56 : Int32) + ((2 : Int32) * x54)) + ((v2 - (60 : Int32)) / (20 : Int32))) μ2) fun r58 =>
              some r58) fun x59 =>
          some (x59, μ2)
      else
        zl ((v2 - (20 : Int32)) % (20 : Int32)) fun x60 =>
        zbd (f_X12_of a0 (11 : Int32) μ2) fun r61 =>
        zbd (if r61 ≤ x60 then
            some (-1 : Int32)
          else
            zbd (f_X12_of a0 (((16 : Int32) + ((2 : Int32) * x60)) + ((v2 - (20 : Int32)) / (20 : Int32))) μ2) fun r64 =>
            some r64) fun x65 =>
        some (x65, μ2)
    else
      zbd (f_X12_of a0 v2 μ2) fun r66 =>
      some (r66, μ2)
  else
    some ((-1 : Int32), μ2)
set_option maxHeartbeats 4000000 in
set_option maxRecDepth 100000 in
theorem r_X12_lake {l : Launch} {g : zL} (a0 : Nat) (v1 : Int32) (v2 : Int32) (μ : zM) (hT0 : zT zNN zσ1 a0 12) {rv : Int32} {μr : zM} (h : f_X12_lake a0 v1 v2 μ = some (rv, μr)) : zMet l g yX12_lake cX12_lake 4 (some (.int)) 3 0 0 zNN zNN zσ1 zσ1 [.ref (zb g + a0), .int v1, .int v2] μ (some (.int rv)) μr := by
  refine zMet.of (by decide +kernel) (Nat.le_of_ble_eq_true rfl) ?_
  intro p e s m args below meth c C0
  refine z_loc (lo1 := [(0, .ref (zb g + a0)), (1, .int v1), (2, .int v2)]) rfl ?_
  unfold f_X12_lake at h
  refine z_aload_n C0 dX12_lake_0 rfl 0 rfl ?_
  refine z_iload_n C0 dX12_lake_1 rfl 1 rfl ?_
  obtain ⟨r1, μ2, e_r1, h⟩ := zbd2_of h
  refine z_callV (As := [.int v1]) (rest := []) C0 rfl kc_X12_isLake km_RX12_186 (r_X12_isLake (l := l) (g := g) a0 v1 μ hT0 e_r1) hT0.1 hT0.2.2.1 rfl (by decide) rfl (Nat.le_of_ble_eq_true rfl) (Nat.le_of_ble_eq_true rfl) (Nat.le_of_ble_eq_true rfl) (Nat.le_of_ble_eq_true rfl) (Nat.le_refl _) rfl rfl dX12_lake_2 ?_
  refine z_if_ne C0 10 dX12_lake_5 (by decide) (fun c3 => ?_) (fun c3 => ?_)
  · have h := zif_t c3 h
    refine z_iload_n C0 dX12_lake_10 rfl 2 rfl ?_
    refine z_iconst (v := (0 : Int32)) C0 dX12_lake_11 (by decide) ?_
    refine z_bipush (v := (15 : Int32)) C0 dX12_lake_12 (by decide) ?_
    refine z_callS (As := [.int v2, .int (0 : Int32), .int (15 : Int32)]) (rest := []) C0 rfl kc_X12_isIn km_RX12_109 (r_X12_isIn (l := l) (g := g) (μ := μ2) v2 (0 : Int32) (15 : Int32) rfl) rfl (Nat.le_of_ble_eq_true rfl) (Nat.le_of_ble_eq_true rfl) (Nat.le_of_ble_eq_true rfl) (Nat.le_of_ble_eq_true rfl) (Nat.le_refl _) rfl rfl dX12_lake_14 ?_
    refine z_if_eq C0 26 dX12_lake_17 (by decide) (fun c7 => ?_) (fun c7 => ?_)
    · have h := zif_t c7 h
      refine z_iload_n C0 dX12_lake_26 rfl 2 rfl ?_
      refine z_bipush (v := (20 : Int32)) C0 dX12_lake_27 (by decide) ?_
      refine z_bipush (v := (59 : Int32)) C0 dX12_lake_29 (by decide) ?_
      refine z_callS (As := [.int v2, .int (20 : Int32), .int (59 : Int32)]) (rest := []) C0 rfl kc_X12_isIn km_RX12_109 (r_X12_isIn (l := l) (g := g) (μ := μ2) v2 (20 : Int32) (59 : Int32) rfl) rfl (Nat.le_of_ble_eq_true rfl) (Nat.le_of_ble_eq_true rfl) (Nat.le_of_ble_eq_true rfl) (Nat.le_of_ble_eq_true rfl) (Nat.le_refl _) rfl rfl dX12_lake_31 ?_
      refine z_if_eq C0 78 dX12_lake_34 (by decide) (fun c10 => ?_) (fun c10 => ?_)
      · have h := zif_t c10 h
        refine z_iload_n C0 dX12_lake_78 rfl 2 rfl ?_
        refine z_bipush (v := (60 : Int32)) C0 dX12_lake_79 (by decide) ?_
        refine z_bipush (v := (99 : Int32)) C0 dX12_lake_81 (by decide) ?_
        refine z_callS (As := [.int v2, .int (60 : Int32), .int (99 : Int32)]) (rest := []) C0 rfl kc_X12_isIn km_RX12_109 (r_X12_isIn (l := l) (g := g) (μ := μ2) v2 (60 : Int32) (99 : Int32) rfl) rfl (Nat.le_of_ble_eq_true rfl) (Nat.le_of_ble_eq_true rfl) (Nat.le_of_ble_eq_true rfl) (Nat.le_of_ble_eq_true rfl) (Nat.le_refl _) rfl rfl dX12_lake_83 ?_
        refine z_if_eq C0 130 dX12_lake_86 (by decide) (fun c12 => ?_) (fun c12 => ?_)
        · have h := zif_t c12 h
          refine z_iload_n C0 dX12_lake_130 rfl 2 rfl ?_
          refine z_bipush (v := (10 : Int32)) C0 dX12_lake_131 (by decide) ?_
          refine z_irem C0 dX12_lake_133 (by decide) ?_
          obtain ⟨x13, e_x13, h⟩ := zl_of h
          refine z_nm e_x13 ?_
          refine z_istore_n (lo1 := [(3, .int x13), (0, .ref (zb g + a0)), (1, .int v1), (2, .int v2)]) C0 dX12_lake_134 rfl (by decide) rfl ?_
          refine z_iload_n C0 dX12_lake_135 rfl 3 rfl ?_
          refine z_bipush (v := (100 : Int32)) C0 dX12_lake_136 (by decide) ?_
          refine z_bipush (v := (109 : Int32)) C0 dX12_lake_138 (by decide) ?_
          refine z_callS (As := [.int v2, .int (100 : Int32), .int (109 : Int32)]) (rest := []) C0 rfl kc_X12_isIn km_RX12_109 (r_X12_isIn (l := l) (g := g) (μ := μ2) v2 (100 : Int32) (109 : Int32) rfl) rfl (Nat.le_of_ble_eq_true rfl) (Nat.le_of_ble_eq_true rfl) (Nat.le_of_ble_eq_true rfl) (Nat.le_of_ble_eq_true rfl) (Nat.le_refl _) rfl rfl dX12_lake_140 ?_
          refine z_if_eq C0 169 dX12_lake_143 (by decide) (fun c14 => ?_) (fun c14 => ?_)
          · have h := zif_t c14 h
            refine z_iload_n C0 dX12_lake_169 rfl 3 rfl ?_
            refine z_bipush (v := (110 : Int32)) C0 dX12_lake_170 (by decide) ?_
            refine z_sipush (v := (139 : Int32)) C0 dX12_lake_172 (by decide) ?_
            refine z_callS (As := [.int v2, .int (110 : Int32), .int (139 : Int32)]) (rest := []) C0 rfl kc_X12_isIn km_RX12_109 (r_X12_isIn (l := l) (g := g) (μ := μ2) v2 (110 : Int32) (139 : Int32) rfl) rfl (Nat.le_of_ble_eq_true rfl) (Nat.le_of_ble_eq_true rfl) (Nat.le_of_ble_eq_true rfl) (Nat.le_of_ble_eq_true rfl) (Nat.le_refl _) rfl rfl dX12_lake_175 ?_
            refine z_if_eq C0 206 dX12_lake_178 (by decide) (fun c27 => ?_) (fun c27 => ?_)
            · have h := zif_t c27 h
              refine z_iload_n C0 dX12_lake_206 rfl 3 rfl ?_
              refine z_sipush (v := (140 : Int32)) C0 dX12_lake_207 (by decide) ?_
              refine z_sipush (v := (159 : Int32)) C0 dX12_lake_210 (by decide) ?_
              refine z_callS (As := [.int v2, .int (140 : Int32), .int (159 : Int32)]) (rest := []) C0 rfl kc_X12_isIn km_RX12_109 (r_X12_isIn (l := l) (g := g) (μ := μ2) v2 (140 : Int32) (159 : Int32) rfl) rfl (Nat.le_of_ble_eq_true rfl) (Nat.le_of_ble_eq_true rfl) (Nat.le_of_ble_eq_true rfl) (Nat.le_of_ble_eq_true rfl) (Nat.le_refl _) rfl rfl dX12_lake_213 ?_
              obtain ⟨x43, e_x43, h⟩ := zbd_of h
              refine z_join μ2 251 [] [.int x43] ?_ (fun k_J41 => ?_)
              · have h := Option.some.inj h
                obtain ⟨rfl, rfl⟩ := Prod.mk.inj h
                exact z_iret C0 rfl dX12_lake_251
              · have h := e_x43
                obtain ⟨b40, e_b40, h⟩ := zbd_of h
                refine z_joinb b40 μ2 229 250 [(3, .int x13), (0, .ref (zb g + a0)), (1, .int v1), (2, .int v2)] [] (fun z69 => ?_) (fun z69 => ?_) (fun k67 k68 => ?_)
                · have h := zif_t z69 h
                  refine z_aload_n C0 dX12_lake_229 rfl 1 rfl ?_
                  refine z_bipush (v := (101 : Int32)) C0 dX12_lake_230 (by decide) ?_
                  refine z_iconst (v := (2 : Int32)) C0 dX12_lake_232 (by decide) ?_
                  refine z_iload_n C0 dX12_lake_233 rfl 0 rfl ?_
                  refine z_imul C0 dX12_lake_234 ?_
                  refine z_iadd C0 dX12_lake_235 ?_
                  refine z_iload_n C0 dX12_lake_236 rfl 3 rfl ?_
                  refine z_bipush (v := (10 : Int32)) C0 dX12_lake_237 (by decide) ?_
                  refine z_idiv C0 dX12_lake_239 (by decide) ?_
                  refine z_iadd C0 dX12_lake_240 ?_
                  refine z_bipush (v := (14 : Int32)) C0 dX12_lake_241 (by decide) ?_
                  refine z_isub C0 dX12_lake_243 ?_
                  obtain ⟨r42, e_r42, h⟩ := zbd_of h
                  refine z_callV (As := [.int ((((101 : Int32) + ((2 : Int32) * x13)) + (v2 / (10 : Int32))) - (14 : Int32))]) (rest := []) C0 rfl kc_X12_of km_RX12_180 (r_X12_of (l := l) (g := g) a0 ((((101 : Int32) + ((2 : Int32) * x13)) + (v2 / (10 : Int32))) - (14 : Int32)) μ2 hT0 e_r42) hT0.1 hT0.2.2.1 rfl (by decide) rfl (Nat.le_of_ble_eq_true rfl) (Nat.le_of_ble_eq_true rfl) (Nat.le_of_ble_eq_true rfl) (Nat.le_of_ble_eq_true rfl) (Nat.le_refl _) rfl rfl dX12_lake_244 ?_
                  refine z_goto C0 251 dX12_lake_247 (by decide) ?_
                  refine z_sub (lo1 := []) [] rfl ?_
                  obtain rfl := (Option.some.inj h)
                  exact k_J41
                · have h := zif_f (fun q => Bool.noConfusion (z69.symm.trans q)) h
                  refine z_iconst (v := (-1 : Int32)) C0 dX12_lake_250 (by decide) ?_
                  refine z_sub (lo1 := []) [] rfl ?_
                  obtain rfl := (Option.some.inj h)
                  exact k_J41
                · have h := e_b40
                  refine z_if_eq C0 250 dX12_lake_216 (by decide) (fun c36 => ?_) (fun c36 => ?_)
                  · have h := zif_t c36 h
                    exact k68 (Option.some.inj h).symm
                  · have h := zif_f c36 h
                    refine z_iload_n C0 dX12_lake_219 rfl 0 rfl ?_
                    refine z_aload_n C0 dX12_lake_220 rfl 1 rfl ?_
                    refine z_bipush (v := (15 : Int32)) C0 dX12_lake_221 (by decide) ?_
                    obtain ⟨r38, e_r38, h⟩ := zbd_of h
                    refine z_callV (As := [.int (15 : Int32)]) (rest := [.int x13]) C0 rfl kc_X12_of km_RX12_180 (r_X12_of (l := l) (g := g) a0 (15 : Int32) μ2 hT0 e_r38) hT0.1 hT0.2.2.1 rfl (by decide) rfl (Nat.le_of_ble_eq_true rfl) (Nat.le_of_ble_eq_true rfl) (Nat.le_of_ble_eq_true rfl) (Nat.le_of_ble_eq_true rfl) (Nat.le_refl _) rfl rfl dX12_lake_223 ?_
                    refine z_icmp_ge C0 250 dX12_lake_226 (by decide) (fun c39 => ?_) (fun c39 => ?_)
                    · have h := zif_t c39 h
                      exact k68 (Option.some.inj h).symm
                    · have h := zif_f c39 h
                      exact k67 (Option.some.inj h).symm
            · have h := zif_f c27 h
              refine z_iload_n C0 dX12_lake_181 rfl 0 rfl ?_
              refine z_aload_n C0 dX12_lake_182 rfl 1 rfl ?_
              obtain ⟨r44, e_r44, h⟩ := zbd_of h
              refine z_callV (As := []) (rest := [.int x13]) C0 rfl kc_X12_mourners km_RX12_183 (r_X12_mourners (l := l) (g := g) a0 μ2 hT0 e_r44) hT0.1 hT0.2.2.1 rfl (by decide) rfl (Nat.le_of_ble_eq_true rfl) (Nat.le_of_ble_eq_true rfl) (Nat.le_of_ble_eq_true rfl) (Nat.le_of_ble_eq_true rfl) (Nat.le_refl _) rfl rfl dX12_lake_183 ?_
              obtain ⟨x48, e_x48, h⟩ := zbd_of h
              refine z_join μ2 205 [] [.int x48] ?_ (fun k_J46 => ?_)
              · have h := Option.some.inj h
                obtain ⟨rfl, rfl⟩ := Prod.mk.inj h
                exact z_iret C0 rfl dX12_lake_205
              · have h := e_x48
                refine z_icmp_ge C0 204 dX12_lake_186 (by decide) (fun c45 => ?_) (fun c45 => ?_)
                · have h := zif_t c45 h
                  refine z_iconst (v := (-1 : Int32)) C0 dX12_lake_204 (by decide) ?_
                  refine z_sub (lo1 := []) [] rfl ?_
                  obtain rfl := (Option.some.inj h)
                  exact k_J46
                · have h := zif_f c45 h
                  refine z_aload_n C0 dX12_lake_189 rfl 1 rfl ?_
                  refine z_iload_n C0 dX12_lake_190 rfl 0 rfl ?_
                  refine z_iload_n C0 dX12_lake_191 rfl 3 rfl ?_
                  refine z_bipush (v := (10 : Int32)) C0 dX12_lake_192 (by decide) ?_
                  refine z_idiv C0 dX12_lake_194 (by decide) ?_
                  refine z_bipush (v := (11 : Int32)) C0 dX12_lake_195 (by decide) ?_
                  refine z_isub C0 dX12_lake_197 ?_
                  obtain ⟨r47, e_r47, h⟩ := zbd_of h
                  refine z_callV (As := [.int x13, .int ((v2 / (10 : Int32)) - (11 : Int32))]) (rest := []) C0 rfl kc_X12_ofMourner km_RX12_189 (r_X12_ofMourner (l := l) (g := g) a0 x13 ((v2 / (10 : Int32)) - (11 : Int32)) μ2 hT0 e_r47) hT0.1 hT0.2.2.1 rfl (by decide) rfl (Nat.le_of_ble_eq_true rfl) (Nat.le_of_ble_eq_true rfl) (Nat.le_of_ble_eq_true rfl) (Nat.le_of_ble_eq_true rfl) (Nat.le_refl _) rfl rfl dX12_lake_198 ?_
                  refine z_goto C0 205 dX12_lake_201 (by decide) ?_
                  refine z_sub (lo1 := []) [] rfl ?_
                  obtain rfl := (Option.some.inj h)
                  exact k_J46
          · have h := zif_f c14 h
            refine z_iload_n C0 dX12_lake_146 rfl 0 rfl ?_
            refine z_aload_n C0 dX12_lake_147 rfl 1 rfl ?_
            refine z_bipush (v := (13 : Int32)) C0 dX12_lake_148 (by decide) ?_
            obtain ⟨r49, e_r49, h⟩ := zbd_of h
            refine z_callV (As := [.int (13 : Int32)]) (rest := [.int x13]) C0 rfl kc_X12_of km_RX12_180 (r_X12_of (l := l) (g := g) a0 (13 : Int32) μ2 hT0 e_r49) hT0.1 hT0.2.2.1 rfl (by decide) rfl (Nat.le_of_ble_eq_true rfl) (Nat.le_of_ble_eq_true rfl) (Nat.le_of_ble_eq_true rfl) (Nat.le_of_ble_eq_true rfl) (Nat.le_refl _) rfl rfl dX12_lake_150 ?_
            obtain ⟨x53, e_x53, h⟩ := zbd_of h
            refine z_join μ2 168 [] [.int x53] ?_ (fun k_J51 => ?_)
            · have h := Option.some.inj h
              obtain ⟨rfl, rfl⟩ := Prod.mk.inj h
              exact z_iret C0 rfl dX12_lake_168
            · have h := e_x53
              refine z_icmp_ge C0 167 dX12_lake_153 (by decide) (fun c50 => ?_) (fun c50 => ?_)
              · have h := zif_t c50 h
                refine z_iconst (v := (-1 : Int32)) C0 dX12_lake_167 (by decide) ?_
                refine z_sub (lo1 := []) [] rfl ?_
                obtain rfl := (Option.some.inj h)
                exact k_J51
              · have h := zif_f c50 h
                refine z_aload_n C0 dX12_lake_156 rfl 1 rfl ?_
                refine z_bipush (v := (80 : Int32)) C0 dX12_lake_157 (by decide) ?_
                refine z_iload_n C0 dX12_lake_159 rfl 0 rfl ?_
                refine z_iadd C0 dX12_lake_160 ?_
                obtain ⟨r52, e_r52, h⟩ := zbd_of h
                refine z_callV (As := [.int ((80 : Int32) + x13)]) (rest := []) C0 rfl kc_X12_of km_RX12_180 (r_X12_of (l := l) (g := g) a0 ((80 : Int32) + x13) μ2 hT0 e_r52) hT0.1 hT0.2.2.1 rfl (by decide) rfl (Nat.le_of_ble_eq_true rfl) (Nat.le_of_ble_eq_true rfl) (Nat.le_of_ble_eq_true rfl) (Nat.le_of_ble_eq_true rfl) (Nat.le_refl _) rfl rfl dX12_lake_161 ?_
                refine z_goto C0 168 dX12_lake_164 (by decide) ?_
                refine z_sub (lo1 := []) [] rfl ?_
                obtain rfl := (Option.some.inj h)
                exact k_J51
        · have h := zif_f c12 h
          refine z_iload_n C0 dX12_lake_89 rfl 2 rfl ?_
          refine z_bipush (v := (60 : Int32)) C0 dX12_lake_90 (by decide) ?_
          refine z_isub C0 dX12_lake_92 ?_
          refine z_bipush (v := (20 : Int32)) C0 dX12_lake_93 (by decide) ?_
          refine z_irem C0 dX12_lake_95 (by decide) ?_
          obtain ⟨x54, e_x54, h⟩ := zl_of h
          refine z_nm e_x54 ?_
          refine z_istore_n (lo1 := [(3, .int x54), (0, .ref (zb g + a0)), (1, .int v1), (2, .int v2)]) C0 dX12_lake_96 rfl (by decide) rfl ?_
          refine z_iload_n C0 dX12_lake_97 rfl 0 rfl ?_
          refine z_aload_n C0 dX12_lake_98 rfl 1 rfl ?_
          refine z_bipush (v := (12 : Int32)) C0 dX12_lake_99 (by decide) ?_
          obtain ⟨r55, e_r55, h⟩ := zbd_of h
          refine z_callV (As := [.int (12 : Int32)]) (rest := [.int x54]) C0 rfl kc_X12_of km_RX12_180 (r_X12_of (l := l) (g := g) a0 (12 : Int32) μ2 hT0 e_r55) hT0.1 hT0.2.2.1 rfl (by decide) rfl (Nat.le_of_ble_eq_true rfl) (Nat.le_of_ble_eq_true rfl) (Nat.le_of_ble_eq_true rfl) (Nat.le_of_ble_eq_true rfl) (Nat.le_refl _) rfl rfl dX12_lake_101 ?_
          obtain ⟨x59, e_x59, h⟩ := zbd_of h
          refine z_join μ2 129 [] [.int x59] ?_ (fun k_J57 => ?_)
          · have h := Option.some.inj h
            obtain ⟨rfl, rfl⟩ := Prod.mk.inj h
            exact z_iret C0 rfl dX12_lake_129
          · have h := e_x59
            refine z_icmp_ge C0 128 dX12_lake_104 (by decide) (fun c56 => ?_) (fun c56 => ?_)
            · have h := zif_t c56 h
              refine z_iconst (v := (-1 : Int32)) C0 dX12_lake_128 (by decide) ?_
              refine z_sub (lo1 := []) [] rfl ?_
              obtain rfl := (Option.some.inj h)
              exact k_J57
            · have h := zif_f c56 h
              refine z_aload_n C0 dX12_lake_107 rfl 1 rfl ?_
              refine z_bipush (v := (56 : Int32)) C0 dX12_lake_108 (by decide) ?_
              refine z_iconst (v := (2 : Int32)) C0 dX12_lake_110 (by decide) ?_
              refine z_iload_n C0 dX12_lake_111 rfl 0 rfl ?_
              refine z_imul C0 dX12_lake_112 ?_
              refine z_iadd C0 dX12_lake_113 ?_
              refine z_iload_n C0 dX12_lake_114 rfl 3 rfl ?_
              refine z_bipush (v := (60 : Int32)) C0 dX12_lake_115 (by decide) ?_
              refine z_isub C0 dX12_lake_117 ?_
              refine z_bipush (v := (20 : Int32)) C0 dX12_lake_118 (by decide) ?_
              refine z_idiv C0 dX12_lake_120 (by decide) ?_
              refine z_iadd C0 dX12_lake_121 ?_
              obtain ⟨r58, e_r58, h⟩ := zbd_of h
              refine z_callV (As := [.int (((56 : Int32) + ((2 : Int32) * x54)) + ((v2 - (60 : Int32)) / (20 : Int32)))]) (rest := []) C0 rfl kc_X12_of km_RX12_180 (r_X12_of (l := l) (g := g) a0 (((56 : Int32) + ((2 : Int32) * x54)) + ((v2 - (60 : Int32)) / (20 : Int32))) μ2 hT0 e_r58) hT0.1 hT0.2.2.1 rfl (by decide) rfl (Nat.le_of_ble_eq_true rfl) (Nat.le_of_ble_eq_true rfl) (Nat.le_of_ble_eq_true rfl) (Nat.le_of_ble_eq_true rfl) (Nat.le_refl _) rfl rfl dX12_lake_122 ?_
              refine z_goto C0 129 dX12_lake_125 (by decide) ?_
              refine z_sub (lo1 := []) [] rfl ?_
              obtain rfl := (Option.some.inj h)
              exact k_J57
      · have h := zif_f c10 h
        refine z_iload_n C0 dX12_lake_37 rfl 2 rfl ?_
        refine z_bipush (v := (20 : Int32)) C0 dX12_lake_38 (by decide) ?_
        refine z_isub C0 dX12_lake_40 ?_
        refine z_bipush (v := (20 : Int32)) C0 dX12_lake_41 (by decide) ?_
        refine z_irem C0 dX12_lake_43 (by decide) ?_
        obtain ⟨x60, e_x60, h⟩ := zl_of h
        refine z_nm e_x60 ?_
        refine z_istore_n (lo1 := [(3, .int x60), (0, .ref (zb g + a0)), (1, .int v1), (2, .int v2)]) C0 dX12_lake_44 rfl (by decide) rfl ?_
        refine z_iload_n C0 dX12_lake_45 rfl 0 rfl ?_
        refine z_aload_n C0 dX12_lake_46 rfl 1 rfl ?_
        refine z_bipush (v := (11 : Int32)) C0 dX12_lake_47 (by decide) ?_
        obtain ⟨r61, e_r61, h⟩ := zbd_of h
        refine z_callV (As := [.int (11 : Int32)]) (rest := [.int x60]) C0 rfl kc_X12_of km_RX12_180 (r_X12_of (l := l) (g := g) a0 (11 : Int32) μ2 hT0 e_r61) hT0.1 hT0.2.2.1 rfl (by decide) rfl (Nat.le_of_ble_eq_true rfl) (Nat.le_of_ble_eq_true rfl) (Nat.le_of_ble_eq_true rfl) (Nat.le_of_ble_eq_true rfl) (Nat.le_refl _) rfl rfl dX12_lake_49 ?_
        obtain ⟨x65, e_x65, h⟩ := zbd_of h
        refine z_join μ2 77 [] [.int x65] ?_ (fun k_J63 => ?_)
        · have h := Option.some.inj h
          obtain ⟨rfl, rfl⟩ := Prod.mk.inj h
          exact z_iret C0 rfl dX12_lake_77
        · have h := e_x65
          refine z_icmp_ge C0 76 dX12_lake_52 (by decide) (fun c62 => ?_) (fun c62 => ?_)
          · have h := zif_t c62 h
            refine z_iconst (v := (-1 : Int32)) C0 dX12_lake_76 (by decide) ?_
            refine z_sub (lo1 := []) [] rfl ?_
            obtain rfl := (Option.some.inj h)
            exact k_J63
          · have h := zif_f c62 h
            refine z_aload_n C0 dX12_lake_55 rfl 1 rfl ?_
            refine z_bipush (v := (16 : Int32)) C0 dX12_lake_56 (by decide) ?_
            refine z_iconst (v := (2 : Int32)) C0 dX12_lake_58 (by decide) ?_
            refine z_iload_n C0 dX12_lake_59 rfl 0 rfl ?_
            refine z_imul C0 dX12_lake_60 ?_
            refine z_iadd C0 dX12_lake_61 ?_
            refine z_iload_n C0 dX12_lake_62 rfl 3 rfl ?_
            refine z_bipush (v := (20 : Int32)) C0 dX12_lake_63 (by decide) ?_
            refine z_isub C0 dX12_lake_65 ?_
            refine z_bipush (v := (20 : Int32)) C0 dX12_lake_66 (by decide) ?_
            refine z_idiv C0 dX12_lake_68 (by decide) ?_
            refine z_iadd C0 dX12_lake_69 ?_
            obtain ⟨r64, e_r64, h⟩ := zbd_of h
            refine z_callV (As := [.int (((16 : Int32) + ((2 : Int32) * x60)) + ((v2 - (20 : Int32)) / (20 : Int32)))]) (rest := []) C0 rfl kc_X12_of km_RX12_180 (r_X12_of (l := l) (g := g) a0 (((16 : Int32) + ((2 : Int32) * x60)) + ((v2 - (20 : Int32)) / (20 : Int32))) μ2 hT0 e_r64) hT0.1 hT0.2.2.1 rfl (by decide) rfl (Nat.le_of_ble_eq_true rfl) (Nat.le_of_ble_eq_true rfl) (Nat.le_of_ble_eq_true rfl) (Nat.le_of_ble_eq_true rfl) (Nat.le_refl _) rfl rfl dX12_lake_70 ?_
            refine z_goto C0 77 dX12_lake_73 (by decide) ?_
            refine z_sub (lo1 := []) [] rfl ?_
            obtain rfl := (Option.some.inj h)
            exact k_J63
    · have h := zif_f c7 h
      refine z_aload_n C0 dX12_lake_20 rfl 0 rfl ?_
      refine z_iload_n C0 dX12_lake_21 rfl 2 rfl ?_
      obtain ⟨r66, e_r66, h⟩ := zbd_of h
      refine z_callV (As := [.int v2]) (rest := []) C0 rfl kc_X12_of km_RX12_180 (r_X12_of (l := l) (g := g) a0 v2 μ2 hT0 e_r66) hT0.1 hT0.2.2.1 rfl (by decide) rfl (Nat.le_of_ble_eq_true rfl) (Nat.le_of_ble_eq_true rfl) (Nat.le_of_ble_eq_true rfl) (Nat.le_of_ble_eq_true rfl) (Nat.le_refl _) rfl rfl dX12_lake_22 ?_
      have h := Option.some.inj h
      obtain ⟨rfl, rfl⟩ := Prod.mk.inj h
      exact z_iret C0 rfl dX12_lake_25
  · have h := zif_f (fun q => q c3) h
    refine z_iconst (v := (-1 : Int32)) C0 dX12_lake_8 (by decide) ?_
    have h := Option.some.inj h
    obtain ⟨rfl, rfl⟩ := Prod.mk.inj h
    exact z_iret C0 rfl dX12_lake_9
def f_X12_lakeLine (a0 : Nat) (μ : zM) : Option (zM) :=
  zl (μ a0 4) fun x1 =>
  zbd2 (f_X12_takes a0 (1 : Int32) (12 : Int32) μ) fun r2 μ3 =>
  zbd (if r2 = (1 : Int32) then
      zbd2 (f_X12_numbered a0 (2 : Int32) (12 : Int32) μ3) fun r5 μ6 =>
      zl (zup μ6 (a0 + 3) 0 r5) fun μ7 =>
      zbd2 (f_X12_numbered a0 (2 : Int32) (12 : Int32) μ7) fun r8 μ9 =>
      zl (zup μ9 (a0 + 3) 1 r8) fun μ10 =>
      some μ10
    else
    if r2 = (2 : Int32) then
      zbd2 (f_X12_numbered a0 (1 : Int32) (4 : Int32) μ3) fun r11 μ12 =>
      zl (zup μ12 (a0 + 3) 2 r11) fun μ13 =>
      zbd2 (f_X12_numbered a0 (1 : Int32) (4 : Int32) μ13) fun r14 μ15 =>
      zl (zup μ15 (a0 + 3) 3 r14) fun μ16 =>
      some μ16
    else
    if r2 = (3 : Int32) then
      zbd2 (f_X12_numbered a0 (0 : Int32) (11 : Int32) μ3) fun r17 μ18 =>
      zl (zup μ18 (a0 + 3) 4 r17) fun μ19 =>
      zbd2 (f_X12_numbered a0 (0 : Int32) (11 : Int32) μ19) fun r20 μ21 =>
      zl (zup μ21 (a0 + 3) 5 r20) fun μ22 =>
      some μ22
    else
    if r2 = (4 : Int32) then
      zbd2 (f_X12_numbered a0 (0 : Int32) (99 : Int32) μ3) fun r23 μ24 =>
      zl (zup μ24 (a0 + 3) 6 r23) fun μ25 =>
      some μ25
    else
    if r2 = (5 : Int32) then
      zbd2 (f_X12_numbered a0 (1 : Int32) (99 : Int32) μ3) fun r26 μ27 =>
      zl (zup μ27 (a0 + 3) 7 r26) fun μ28 =>
      some μ28
    else
    if r2 = (6 : Int32) then
      zbd2 (f_X12_numbered a0 (1 : Int32) (99 : Int32) μ3) fun r29 μ30 =>
      zl (zup μ30 (a0 + 3) 8 r29) fun μ31 =>
      some μ31
    else
    if r2 = (7 : Int32) then
      zbd (f_X12_further a0 x1 (11 : Int32) (20 : Int32) (16 : Int32) (2 : Int32) (0 : Int32) μ3) fun μ32 =>
      some μ32
    else
    if r2 = (8 : Int32) then
      zbd (f_X12_further a0 x1 (12 : Int32) (12 : Int32) (56 : Int32) (2 : Int32) (4 : Int32) μ3) fun μ33 =>
      some μ33
    else
    if r2 = (9 : Int32) then
      zbd (f_X12_further a0 x1 (13 : Int32) (6 : Int32) (80 : Int32) (1 : Int32) (8 : Int32) μ3) fun μ34 =>
      some μ34
    else
    if r2 = (10 : Int32) then
      zbd (f_X12_further a0 x1 (14 : Int32) (5 : Int32) (86 : Int32) (3 : Int32) (10 : Int32) μ3) fun μ35 =>
      some μ35
    else
    if r2 = (11 : Int32) then
      zbd (f_X12_further a0 x1 (15 : Int32) (4 : Int32) (101 : Int32) (2 : Int32) (16 : Int32) μ3) fun μ36 =>
      some μ36
    else
    if r2 = (12 : Int32) then
      zbd (f_X12_brothers a0 μ3) fun μ37 =>
      some μ37
    else
      some μ3) fun μ38 =>
  zbd (f_X12_endsLine a0 μ38) fun μ39 =>
  some μ39
set_option maxHeartbeats 4000000 in
set_option maxRecDepth 100000 in
theorem r_X12_lakeLine {l : Launch} {g : zL} {κ : zK} (a0 : Nat) (μ : zM) (hT0 : zT zNN zσ1 a0 12) (hSp : zSK g κ) {μr : zM} (h : f_X12_lakeLine a0 μ = some μr) : zMet l g yX12_lakeLine cX12_lakeLine 3 none 7 0 0 zNN zNN zσ1 zσ1 [.ref (zb g + a0)] μ none μr := by
  refine zMet.of (by decide +kernel) (Nat.le_of_ble_eq_true rfl) ?_
  intro p e s m args below meth c C0
  have hF := hSp.at C0
  refine z_loc (lo1 := [(0, .ref (zb g + a0))]) rfl ?_
  unfold f_X12_lakeLine at h
  refine z_aload_n C0 dX12_lakeLine_0 rfl 0 rfl ?_
  refine z_geti C0 hT0.1 hT0.2.2.1 kf_12_76 zr_12_4 dX12_lakeLine_1 ?_
  obtain ⟨x1, e_x1, h⟩ := zl_of h
  refine z_nm e_x1 ?_
  refine z_istore_n (lo1 := [(1, .int x1), (0, .ref (zb g + a0))]) C0 dX12_lakeLine_4 rfl (by decide) rfl ?_
  refine z_aload_n C0 dX12_lakeLine_5 rfl 1 rfl ?_
  refine z_iconst (v := (1 : Int32)) C0 dX12_lakeLine_6 (by decide) ?_
  refine z_bipush (v := (12 : Int32)) C0 dX12_lakeLine_7 (by decide) ?_
  obtain ⟨r2, μ3, e_r2, h⟩ := zbd2_of h
  refine z_callV (As := [.int (1 : Int32), .int (12 : Int32)]) (rest := []) C0 rfl kc_X12_takes km_RX12_127 (r_X12_takes (l := l) (g := g) a0 (1 : Int32) (12 : Int32) μ hT0 e_r2) hT0.1 hT0.2.2.1 rfl (by decide) rfl (Nat.le_of_ble_eq_true rfl) (Nat.le_of_ble_eq_true rfl) (Nat.le_of_ble_eq_true rfl) (Nat.le_of_ble_eq_true rfl) (Nat.le_refl _) rfl rfl dX12_lakeLine_9 ?_
  refine z_istore_n (lo1 := [(2, .int r2), (1, .int x1), (0, .ref (zb g + a0))]) C0 dX12_lakeLine_12 rfl (by decide) rfl ?_
  refine z_iload_n C0 dX12_lakeLine_13 rfl 0 rfl ?_
  obtain ⟨μ38, e_μ38, h⟩ := zbd_of h
  refine z_join μ38 300 [(0, .ref (zb g + a0))] [] ?_ (fun k_J4 => ?_)
  · refine z_aload_n C0 dX12_lakeLine_300 rfl 0 rfl ?_
    obtain ⟨μ39, e_μ39, h⟩ := zbd_of h
    refine z_callV (As := []) (rest := []) C0 rfl kc_X12_endsLine km_RX12_137 (r_X12_endsLine (l := l) (g := g) a0 μ38 hT0 e_μ39) hT0.1 hT0.2.2.1 rfl (by decide) rfl (Nat.le_of_ble_eq_true rfl) (Nat.le_of_ble_eq_true rfl) (Nat.le_of_ble_eq_true rfl) (Nat.le_of_ble_eq_true rfl) (Nat.le_refl _) rfl rfl dX12_lakeLine_301 ?_
    have h := Option.some.inj h
    obtain rfl := h
    exact z_vret C0 rfl dX12_lakeLine_304
  · have h := e_μ38
    by_cases c40 : r2 = (1 : Int32)
    · have h := zif_t c40 h
      refine z_tabK C0 (62) 76 dX12_lakeLine_14 c40 (by decide) (by decide) (by decide) (by decide) ?_
      refine z_aload_n C0 dX12_lakeLine_76 rfl 2 rfl ?_
      refine z_getr C0 hT0 kf_12_17 zr_12_9 zx_12 (zs_12_9 hT0).1 dX12_lakeLine_77 ?_
      refine z_iconst (v := (0 : Int32)) C0 dX12_lakeLine_80 (by decide) ?_
      refine z_aload_n C0 dX12_lakeLine_81 rfl 2 rfl ?_
      refine z_iconst (v := (2 : Int32)) C0 dX12_lakeLine_82 (by decide) ?_
      refine z_bipush (v := (12 : Int32)) C0 dX12_lakeLine_83 (by decide) ?_
      obtain ⟨r5, μ6, e_r5, h⟩ := zbd2_of h
      refine z_callV (As := [.int (2 : Int32), .int (12 : Int32)]) (rest := [.int (0 : Int32), .ref (zb g + (a0 + 3))]) C0 rfl kc_X12_numbered km_RX12_123 (r_X12_numbered (l := l) (g := g) a0 (2 : Int32) (12 : Int32) μ3 hT0 e_r5) hT0.1 hT0.2.2.1 rfl (by decide) rfl (Nat.le_of_ble_eq_true rfl) (Nat.le_of_ble_eq_true rfl) (Nat.le_of_ble_eq_true rfl) (Nat.le_of_ble_eq_true rfl) (Nat.le_refl _) rfl rfl dX12_lakeLine_85 ?_
      obtain ⟨μ7, e_μ7, h⟩ := zl_of h
      refine z_iast (j := 0) C0 (zs_12_9 hT0).2 (by decide : zin (0 : Int32) 121 = true) (by decide) e_μ7 dX12_lakeLine_88 ?_
      refine z_aload_n C0 dX12_lakeLine_89 rfl 2 rfl ?_
      refine z_getr C0 hT0 kf_12_17 zr_12_9 zx_12 (zs_12_9 hT0).1 dX12_lakeLine_90 ?_
      refine z_iconst (v := (1 : Int32)) C0 dX12_lakeLine_93 (by decide) ?_
      refine z_aload_n C0 dX12_lakeLine_94 rfl 2 rfl ?_
      refine z_iconst (v := (2 : Int32)) C0 dX12_lakeLine_95 (by decide) ?_
      refine z_bipush (v := (12 : Int32)) C0 dX12_lakeLine_96 (by decide) ?_
      obtain ⟨r8, μ9, e_r8, h⟩ := zbd2_of h
      refine z_callV (As := [.int (2 : Int32), .int (12 : Int32)]) (rest := [.int (1 : Int32), .ref (zb g + (a0 + 3))]) C0 rfl kc_X12_numbered km_RX12_123 (r_X12_numbered (l := l) (g := g) a0 (2 : Int32) (12 : Int32) μ7 hT0 e_r8) hT0.1 hT0.2.2.1 rfl (by decide) rfl (Nat.le_of_ble_eq_true rfl) (Nat.le_of_ble_eq_true rfl) (Nat.le_of_ble_eq_true rfl) (Nat.le_of_ble_eq_true rfl) (Nat.le_refl _) rfl rfl dX12_lakeLine_98 ?_
      obtain ⟨μ10, e_μ10, h⟩ := zl_of h
      refine z_iast (j := 1) C0 (zs_12_9 hT0).2 (by decide : zin (1 : Int32) 121 = true) (by decide) e_μ10 dX12_lakeLine_101 ?_
      refine z_goto C0 300 dX12_lakeLine_102 (by decide) ?_
      refine z_sub (lo1 := [(0, .ref (zb g + a0))]) [2] rfl ?_
      obtain rfl := (Option.some.inj h)
      exact k_J4
    · have h := zif_f c40 h
      by_cases c41 : r2 = (2 : Int32)
      · have h := zif_t c41 h
        refine z_tabK C0 (91) 105 dX12_lakeLine_14 c41 (by decide) (by decide) (by decide) (by decide) ?_
        refine z_aload_n C0 dX12_lakeLine_105 rfl 2 rfl ?_
        refine z_getr C0 hT0 kf_12_17 zr_12_9 zx_12 (zs_12_9 hT0).1 dX12_lakeLine_106 ?_
        refine z_iconst (v := (2 : Int32)) C0 dX12_lakeLine_109 (by decide) ?_
        refine z_aload_n C0 dX12_lakeLine_110 rfl 2 rfl ?_
        refine z_iconst (v := (1 : Int32)) C0 dX12_lakeLine_111 (by decide) ?_
        refine z_iconst (v := (4 : Int32)) C0 dX12_lakeLine_112 (by decide) ?_
        obtain ⟨r11, μ12, e_r11, h⟩ := zbd2_of h
        refine z_callV (As := [.int (1 : Int32), .int (4 : Int32)]) (rest := [.int (2 : Int32), .ref (zb g + (a0 + 3))]) C0 rfl kc_X12_numbered km_RX12_123 (r_X12_numbered (l := l) (g := g) a0 (1 : Int32) (4 : Int32) μ3 hT0 e_r11) hT0.1 hT0.2.2.1 rfl (by decide) rfl (Nat.le_of_ble_eq_true rfl) (Nat.le_of_ble_eq_true rfl) (Nat.le_of_ble_eq_true rfl) (Nat.le_of_ble_eq_true rfl) (Nat.le_refl _) rfl rfl dX12_lakeLine_113 ?_
        obtain ⟨μ13, e_μ13, h⟩ := zl_of h
        refine z_iast (j := 2) C0 (zs_12_9 hT0).2 (by decide : zin (2 : Int32) 121 = true) (by decide) e_μ13 dX12_lakeLine_116 ?_
        refine z_aload_n C0 dX12_lakeLine_117 rfl 2 rfl ?_
        refine z_getr C0 hT0 kf_12_17 zr_12_9 zx_12 (zs_12_9 hT0).1 dX12_lakeLine_118 ?_
        refine z_iconst (v := (3 : Int32)) C0 dX12_lakeLine_121 (by decide) ?_
        refine z_aload_n C0 dX12_lakeLine_122 rfl 2 rfl ?_
        refine z_iconst (v := (1 : Int32)) C0 dX12_lakeLine_123 (by decide) ?_
        refine z_iconst (v := (4 : Int32)) C0 dX12_lakeLine_124 (by decide) ?_
        obtain ⟨r14, μ15, e_r14, h⟩ := zbd2_of h
        refine z_callV (As := [.int (1 : Int32), .int (4 : Int32)]) (rest := [.int (3 : Int32), .ref (zb g + (a0 + 3))]) C0 rfl kc_X12_numbered km_RX12_123 (r_X12_numbered (l := l) (g := g) a0 (1 : Int32) (4 : Int32) μ13 hT0 e_r14) hT0.1 hT0.2.2.1 rfl (by decide) rfl (Nat.le_of_ble_eq_true rfl) (Nat.le_of_ble_eq_true rfl) (Nat.le_of_ble_eq_true rfl) (Nat.le_of_ble_eq_true rfl) (Nat.le_refl _) rfl rfl dX12_lakeLine_125 ?_
        obtain ⟨μ16, e_μ16, h⟩ := zl_of h
        refine z_iast (j := 3) C0 (zs_12_9 hT0).2 (by decide : zin (3 : Int32) 121 = true) (by decide) e_μ16 dX12_lakeLine_128 ?_
        refine z_goto C0 300 dX12_lakeLine_129 (by decide) ?_
        refine z_sub (lo1 := [(0, .ref (zb g + a0))]) [2] rfl ?_
        obtain rfl := (Option.some.inj h)
        exact k_J4
      · have h := zif_f c41 h
        by_cases c42 : r2 = (3 : Int32)
        · have h := zif_t c42 h
          refine z_tabK C0 (118) 132 dX12_lakeLine_14 c42 (by decide) (by decide) (by decide) (by decide) ?_
          refine z_aload_n C0 dX12_lakeLine_132 rfl 2 rfl ?_
          refine z_getr C0 hT0 kf_12_17 zr_12_9 zx_12 (zs_12_9 hT0).1 dX12_lakeLine_133 ?_
          refine z_iconst (v := (4 : Int32)) C0 dX12_lakeLine_136 (by decide) ?_
          refine z_aload_n C0 dX12_lakeLine_137 rfl 2 rfl ?_
          refine z_iconst (v := (0 : Int32)) C0 dX12_lakeLine_138 (by decide) ?_
          refine z_bipush (v := (11 : Int32)) C0 dX12_lakeLine_139 (by decide) ?_
          obtain ⟨r17, μ18, e_r17, h⟩ := zbd2_of h
          refine z_callV (As := [.int (0 : Int32), .int (11 : Int32)]) (rest := [.int (4 : Int32), .ref (zb g + (a0 + 3))]) C0 rfl kc_X12_numbered km_RX12_123 (r_X12_numbered (l := l) (g := g) a0 (0 : Int32) (11 : Int32) μ3 hT0 e_r17) hT0.1 hT0.2.2.1 rfl (by decide) rfl (Nat.le_of_ble_eq_true rfl) (Nat.le_of_ble_eq_true rfl) (Nat.le_of_ble_eq_true rfl) (Nat.le_of_ble_eq_true rfl) (Nat.le_refl _) rfl rfl dX12_lakeLine_141 ?_
          obtain ⟨μ19, e_μ19, h⟩ := zl_of h
          refine z_iast (j := 4) C0 (zs_12_9 hT0).2 (by decide : zin (4 : Int32) 121 = true) (by decide) e_μ19 dX12_lakeLine_144 ?_
          refine z_aload_n C0 dX12_lakeLine_145 rfl 2 rfl ?_
          refine z_getr C0 hT0 kf_12_17 zr_12_9 zx_12 (zs_12_9 hT0).1 dX12_lakeLine_146 ?_
          refine z_iconst (v := (5 : Int32)) C0 dX12_lakeLine_149 (by decide) ?_
          refine z_aload_n C0 dX12_lakeLine_150 rfl 2 rfl ?_
          refine z_iconst (v := (0 : Int32)) C0 dX12_lakeLine_151 (by decide) ?_
          refine z_bipush (v := (11 : Int32)) C0 dX12_lakeLine_152 (by decide) ?_
          obtain ⟨r20, μ21, e_r20, h⟩ := zbd2_of h
          refine z_callV (As := [.int (0 : Int32), .int (11 : Int32)]) (rest := [.int (5 : Int32), .ref (zb g + (a0 + 3))]) C0 rfl kc_X12_numbered km_RX12_123 (r_X12_numbered (l := l) (g := g) a0 (0 : Int32) (11 : Int32) μ19 hT0 e_r20) hT0.1 hT0.2.2.1 rfl (by decide) rfl (Nat.le_of_ble_eq_true rfl) (Nat.le_of_ble_eq_true rfl) (Nat.le_of_ble_eq_true rfl) (Nat.le_of_ble_eq_true rfl) (Nat.le_refl _) rfl rfl dX12_lakeLine_154 ?_
          obtain ⟨μ22, e_μ22, h⟩ := zl_of h
          refine z_iast (j := 5) C0 (zs_12_9 hT0).2 (by decide : zin (5 : Int32) 121 = true) (by decide) e_μ22 dX12_lakeLine_157 ?_
          refine z_goto C0 300 dX12_lakeLine_158 (by decide) ?_
          refine z_sub (lo1 := [(0, .ref (zb g + a0))]) [2] rfl ?_
          obtain rfl := (Option.some.inj h)
          exact k_J4
        · have h := zif_f c42 h
          by_cases c43 : r2 = (4 : Int32)
          · have h := zif_t c43 h
            refine z_tabK C0 (147) 161 dX12_lakeLine_14 c43 (by decide) (by decide) (by decide) (by decide) ?_
            refine z_aload_n C0 dX12_lakeLine_161 rfl 2 rfl ?_
            refine z_getr C0 hT0 kf_12_17 zr_12_9 zx_12 (zs_12_9 hT0).1 dX12_lakeLine_162 ?_
            refine z_bipush (v := (6 : Int32)) C0 dX12_lakeLine_165 (by decide) ?_
            refine z_aload_n C0 dX12_lakeLine_167 rfl 2 rfl ?_
            refine z_iconst (v := (0 : Int32)) C0 dX12_lakeLine_168 (by decide) ?_
            refine z_bipush (v := (99 : Int32)) C0 dX12_lakeLine_169 (by decide) ?_
            obtain ⟨r23, μ24, e_r23, h⟩ := zbd2_of h
            refine z_callV (As := [.int (0 : Int32), .int (99 : Int32)]) (rest := [.int (6 : Int32), .ref (zb g + (a0 + 3))]) C0 rfl kc_X12_numbered km_RX12_123 (r_X12_numbered (l := l) (g := g) a0 (0 : Int32) (99 : Int32) μ3 hT0 e_r23) hT0.1 hT0.2.2.1 rfl (by decide) rfl (Nat.le_of_ble_eq_true rfl) (Nat.le_of_ble_eq_true rfl) (Nat.le_of_ble_eq_true rfl) (Nat.le_of_ble_eq_true rfl) (Nat.le_refl _) rfl rfl dX12_lakeLine_171 ?_
            obtain ⟨μ25, e_μ25, h⟩ := zl_of h
            refine z_iast (j := 6) C0 (zs_12_9 hT0).2 (by decide : zin (6 : Int32) 121 = true) (by decide) e_μ25 dX12_lakeLine_174 ?_
            refine z_goto C0 300 dX12_lakeLine_175 (by decide) ?_
            refine z_sub (lo1 := [(0, .ref (zb g + a0))]) [2] rfl ?_
            obtain rfl := (Option.some.inj h)
            exact k_J4
          · have h := zif_f c43 h
            by_cases c44 : r2 = (5 : Int32)
            · have h := zif_t c44 h
              refine z_tabK C0 (164) 178 dX12_lakeLine_14 c44 (by decide) (by decide) (by decide) (by decide) ?_
              refine z_aload_n C0 dX12_lakeLine_178 rfl 2 rfl ?_
              refine z_getr C0 hT0 kf_12_17 zr_12_9 zx_12 (zs_12_9 hT0).1 dX12_lakeLine_179 ?_
              refine z_bipush (v := (7 : Int32)) C0 dX12_lakeLine_182 (by decide) ?_
              refine z_aload_n C0 dX12_lakeLine_184 rfl 2 rfl ?_
              refine z_iconst (v := (1 : Int32)) C0 dX12_lakeLine_185 (by decide) ?_
              refine z_bipush (v := (99 : Int32)) C0 dX12_lakeLine_186 (by decide) ?_
              obtain ⟨r26, μ27, e_r26, h⟩ := zbd2_of h
              refine z_callV (As := [.int (1 : Int32), .int (99 : Int32)]) (rest := [.int (7 : Int32), .ref (zb g + (a0 + 3))]) C0 rfl kc_X12_numbered km_RX12_123 (r_X12_numbered (l := l) (g := g) a0 (1 : Int32) (99 : Int32) μ3 hT0 e_r26) hT0.1 hT0.2.2.1 rfl (by decide) rfl (Nat.le_of_ble_eq_true rfl) (Nat.le_of_ble_eq_true rfl) (Nat.le_of_ble_eq_true rfl) (Nat.le_of_ble_eq_true rfl) (Nat.le_refl _) rfl rfl dX12_lakeLine_188 ?_
              obtain ⟨μ28, e_μ28, h⟩ := zl_of h
              refine z_iast (j := 7) C0 (zs_12_9 hT0).2 (by decide : zin (7 : Int32) 121 = true) (by decide) e_μ28 dX12_lakeLine_191 ?_
              refine z_goto C0 300 dX12_lakeLine_192 (by decide) ?_
              refine z_sub (lo1 := [(0, .ref (zb g + a0))]) [2] rfl ?_
              obtain rfl := (Option.some.inj h)
              exact k_J4
            · have h := zif_f c44 h
              by_cases c45 : r2 = (6 : Int32)
              · have h := zif_t c45 h
                refine z_tabK C0 (181) 195 dX12_lakeLine_14 c45 (by decide) (by decide) (by decide) (by decide) ?_
                refine z_aload_n C0 dX12_lakeLine_195 rfl 2 rfl ?_
                refine z_getr C0 hT0 kf_12_17 zr_12_9 zx_12 (zs_12_9 hT0).1 dX12_lakeLine_196 ?_
                refine z_bipush (v := (8 : Int32)) C0 dX12_lakeLine_199 (by decide) ?_
                refine z_aload_n C0 dX12_lakeLine_201 rfl 2 rfl ?_
                refine z_iconst (v := (1 : Int32)) C0 dX12_lakeLine_202 (by decide) ?_
                refine z_bipush (v := (99 : Int32)) C0 dX12_lakeLine_203 (by decide) ?_
                obtain ⟨r29, μ30, e_r29, h⟩ := zbd2_of h
                refine z_callV (As := [.int (1 : Int32), .int (99 : Int32)]) (rest := [.int (8 : Int32), .ref (zb g + (a0 + 3))]) C0 rfl kc_X12_numbered km_RX12_123 (r_X12_numbered (l := l) (g := g) a0 (1 : Int32) (99 : Int32) μ3 hT0 e_r29) hT0.1 hT0.2.2.1 rfl (by decide) rfl (Nat.le_of_ble_eq_true rfl) (Nat.le_of_ble_eq_true rfl) (Nat.le_of_ble_eq_true rfl) (Nat.le_of_ble_eq_true rfl) (Nat.le_refl _) rfl rfl dX12_lakeLine_205 ?_
                obtain ⟨μ31, e_μ31, h⟩ := zl_of h
                refine z_iast (j := 8) C0 (zs_12_9 hT0).2 (by decide : zin (8 : Int32) 121 = true) (by decide) e_μ31 dX12_lakeLine_208 ?_
                refine z_goto C0 300 dX12_lakeLine_209 (by decide) ?_
                refine z_sub (lo1 := [(0, .ref (zb g + a0))]) [2] rfl ?_
                obtain rfl := (Option.some.inj h)
                exact k_J4
              · have h := zif_f c45 h
                by_cases c46 : r2 = (7 : Int32)
                · have h := zif_t c46 h
                  refine z_tabK C0 (198) 212 dX12_lakeLine_14 c46 (by decide) (by decide) (by decide) (by decide) ?_
                  refine z_aload_n C0 dX12_lakeLine_212 rfl 2 rfl ?_
                  refine z_iload_n C0 dX12_lakeLine_213 rfl 1 rfl ?_
                  refine z_bipush (v := (11 : Int32)) C0 dX12_lakeLine_214 (by decide) ?_
                  refine z_bipush (v := (20 : Int32)) C0 dX12_lakeLine_216 (by decide) ?_
                  refine z_bipush (v := (16 : Int32)) C0 dX12_lakeLine_218 (by decide) ?_
                  refine z_iconst (v := (2 : Int32)) C0 dX12_lakeLine_220 (by decide) ?_
                  refine z_iconst (v := (0 : Int32)) C0 dX12_lakeLine_221 (by decide) ?_
                  obtain ⟨μ32, e_μ32, h⟩ := zbd_of h
                  refine z_callV (As := [.int x1, .int (11 : Int32), .int (20 : Int32), .int (16 : Int32), .int (2 : Int32), .int (0 : Int32)]) (rest := []) C0 rfl kc_X12_further km_RX12_130 (r_X12_further (l := l) (g := g) a0 x1 (11 : Int32) (20 : Int32) (16 : Int32) (2 : Int32) (0 : Int32) μ3 hT0 hSp e_μ32) hT0.1 hT0.2.2.1 rfl (by decide) rfl (Nat.le_of_ble_eq_true rfl) (Nat.le_of_ble_eq_true rfl) (Nat.le_of_ble_eq_true rfl) (Nat.le_of_ble_eq_true rfl) (Nat.le_refl _) rfl rfl dX12_lakeLine_222 ?_
                  refine z_goto C0 300 dX12_lakeLine_225 (by decide) ?_
                  refine z_sub (lo1 := [(0, .ref (zb g + a0))]) [2] rfl ?_
                  obtain rfl := (Option.some.inj h)
                  exact k_J4
                · have h := zif_f c46 h
                  by_cases c47 : r2 = (8 : Int32)
                  · have h := zif_t c47 h
                    refine z_tabK C0 (214) 228 dX12_lakeLine_14 c47 (by decide) (by decide) (by decide) (by decide) ?_
                    refine z_aload_n C0 dX12_lakeLine_228 rfl 2 rfl ?_
                    refine z_iload_n C0 dX12_lakeLine_229 rfl 1 rfl ?_
                    refine z_bipush (v := (12 : Int32)) C0 dX12_lakeLine_230 (by decide) ?_
                    refine z_bipush (v := (12 : Int32)) C0 dX12_lakeLine_232 (by decide) ?_
                    refine z_bipush (v := (56 : Int32)) C0 dX12_lakeLine_234 (by decide) ?_
                    refine z_iconst (v := (2 : Int32)) C0 dX12_lakeLine_236 (by decide) ?_
                    refine z_iconst (v := (4 : Int32)) C0 dX12_lakeLine_237 (by decide) ?_
                    obtain ⟨μ33, e_μ33, h⟩ := zbd_of h
                    refine z_callV (As := [.int x1, .int (12 : Int32), .int (12 : Int32), .int (56 : Int32), .int (2 : Int32), .int (4 : Int32)]) (rest := []) C0 rfl kc_X12_further km_RX12_130 (r_X12_further (l := l) (g := g) a0 x1 (12 : Int32) (12 : Int32) (56 : Int32) (2 : Int32) (4 : Int32) μ3 hT0 hSp e_μ33) hT0.1 hT0.2.2.1 rfl (by decide) rfl (Nat.le_of_ble_eq_true rfl) (Nat.le_of_ble_eq_true rfl) (Nat.le_of_ble_eq_true rfl) (Nat.le_of_ble_eq_true rfl) (Nat.le_refl _) rfl rfl dX12_lakeLine_238 ?_
                    refine z_goto C0 300 dX12_lakeLine_241 (by decide) ?_
                    refine z_sub (lo1 := [(0, .ref (zb g + a0))]) [2] rfl ?_
                    obtain rfl := (Option.some.inj h)
                    exact k_J4
                  · have h := zif_f c47 h
                    by_cases c48 : r2 = (9 : Int32)
                    · have h := zif_t c48 h
                      refine z_tabK C0 (230) 244 dX12_lakeLine_14 c48 (by decide) (by decide) (by decide) (by decide) ?_
                      refine z_aload_n C0 dX12_lakeLine_244 rfl 2 rfl ?_
                      refine z_iload_n C0 dX12_lakeLine_245 rfl 1 rfl ?_
                      refine z_bipush (v := (13 : Int32)) C0 dX12_lakeLine_246 (by decide) ?_
                      refine z_bipush (v := (6 : Int32)) C0 dX12_lakeLine_248 (by decide) ?_
                      refine z_bipush (v := (80 : Int32)) C0 dX12_lakeLine_250 (by decide) ?_
                      refine z_iconst (v := (1 : Int32)) C0 dX12_lakeLine_252 (by decide) ?_
                      refine z_bipush (v := (8 : Int32)) C0 dX12_lakeLine_253 (by decide) ?_
                      obtain ⟨μ34, e_μ34, h⟩ := zbd_of h
                      refine z_callV (As := [.int x1, .int (13 : Int32), .int (6 : Int32), .int (80 : Int32), .int (1 : Int32), .int (8 : Int32)]) (rest := []) C0 rfl kc_X12_further km_RX12_130 (r_X12_further (l := l) (g := g) a0 x1 (13 : Int32) (6 : Int32) (80 : Int32) (1 : Int32) (8 : Int32) μ3 hT0 hSp e_μ34) hT0.1 hT0.2.2.1 rfl (by decide) rfl (Nat.le_of_ble_eq_true rfl) (Nat.le_of_ble_eq_true rfl) (Nat.le_of_ble_eq_true rfl) (Nat.le_of_ble_eq_true rfl) (Nat.le_refl _) rfl rfl dX12_lakeLine_255 ?_
                      refine z_goto C0 300 dX12_lakeLine_258 (by decide) ?_
                      refine z_sub (lo1 := [(0, .ref (zb g + a0))]) [2] rfl ?_
                      obtain rfl := (Option.some.inj h)
                      exact k_J4
                    · have h := zif_f c48 h
                      by_cases c49 : r2 = (10 : Int32)
                      · have h := zif_t c49 h
                        refine z_tabK C0 (247) 261 dX12_lakeLine_14 c49 (by decide) (by decide) (by decide) (by decide) ?_
                        refine z_aload_n C0 dX12_lakeLine_261 rfl 2 rfl ?_
                        refine z_iload_n C0 dX12_lakeLine_262 rfl 1 rfl ?_
                        refine z_bipush (v := (14 : Int32)) C0 dX12_lakeLine_263 (by decide) ?_
                        refine z_iconst (v := (5 : Int32)) C0 dX12_lakeLine_265 (by decide) ?_
                        refine z_bipush (v := (86 : Int32)) C0 dX12_lakeLine_266 (by decide) ?_
                        refine z_iconst (v := (3 : Int32)) C0 dX12_lakeLine_268 (by decide) ?_
                        refine z_bipush (v := (10 : Int32)) C0 dX12_lakeLine_269 (by decide) ?_
                        obtain ⟨μ35, e_μ35, h⟩ := zbd_of h
                        refine z_callV (As := [.int x1, .int (14 : Int32), .int (5 : Int32), .int (86 : Int32), .int (3 : Int32), .int (10 : Int32)]) (rest := []) C0 rfl kc_X12_further km_RX12_130 (r_X12_further (l := l) (g := g) a0 x1 (14 : Int32) (5 : Int32) (86 : Int32) (3 : Int32) (10 : Int32) μ3 hT0 hSp e_μ35) hT0.1 hT0.2.2.1 rfl (by decide) rfl (Nat.le_of_ble_eq_true rfl) (Nat.le_of_ble_eq_true rfl) (Nat.le_of_ble_eq_true rfl) (Nat.le_of_ble_eq_true rfl) (Nat.le_refl _) rfl rfl dX12_lakeLine_271 ?_
                        refine z_goto C0 300 dX12_lakeLine_274 (by decide) ?_
                        refine z_sub (lo1 := [(0, .ref (zb g + a0))]) [2] rfl ?_
                        obtain rfl := (Option.some.inj h)
                        exact k_J4
                      · have h := zif_f c49 h
                        by_cases c50 : r2 = (11 : Int32)
                        · have h := zif_t c50 h
                          refine z_tabK C0 (263) 277 dX12_lakeLine_14 c50 (by decide) (by decide) (by decide) (by decide) ?_
                          refine z_aload_n C0 dX12_lakeLine_277 rfl 2 rfl ?_
                          refine z_iload_n C0 dX12_lakeLine_278 rfl 1 rfl ?_
                          refine z_bipush (v := (15 : Int32)) C0 dX12_lakeLine_279 (by decide) ?_
                          refine z_iconst (v := (4 : Int32)) C0 dX12_lakeLine_281 (by decide) ?_
                          refine z_bipush (v := (101 : Int32)) C0 dX12_lakeLine_282 (by decide) ?_
                          refine z_iconst (v := (2 : Int32)) C0 dX12_lakeLine_284 (by decide) ?_
                          refine z_bipush (v := (16 : Int32)) C0 dX12_lakeLine_285 (by decide) ?_
                          obtain ⟨μ36, e_μ36, h⟩ := zbd_of h
                          refine z_callV (As := [.int x1, .int (15 : Int32), .int (4 : Int32), .int (101 : Int32), .int (2 : Int32), .int (16 : Int32)]) (rest := []) C0 rfl kc_X12_further km_RX12_130 (r_X12_further (l := l) (g := g) a0 x1 (15 : Int32) (4 : Int32) (101 : Int32) (2 : Int32) (16 : Int32) μ3 hT0 hSp e_μ36) hT0.1 hT0.2.2.1 rfl (by decide) rfl (Nat.le_of_ble_eq_true rfl) (Nat.le_of_ble_eq_true rfl) (Nat.le_of_ble_eq_true rfl) (Nat.le_of_ble_eq_true rfl) (Nat.le_refl _) rfl rfl dX12_lakeLine_287 ?_
                          refine z_goto C0 300 dX12_lakeLine_290 (by decide) ?_
                          refine z_sub (lo1 := [(0, .ref (zb g + a0))]) [2] rfl ?_
                          obtain rfl := (Option.some.inj h)
                          exact k_J4
                        · have h := zif_f c50 h
                          by_cases c51 : r2 = (12 : Int32)
                          · have h := zif_t c51 h
                            refine z_tabK C0 (279) 293 dX12_lakeLine_14 c51 (by decide) (by decide) (by decide) (by decide) ?_
                            refine z_aload_n C0 dX12_lakeLine_293 rfl 2 rfl ?_
                            obtain ⟨μ37, e_μ37, h⟩ := zbd_of h
                            refine z_callV (As := []) (rest := []) C0 rfl kc_X12_brothers km_RX12_134 (r_X12_brothers (l := l) (g := g) a0 μ3 hT0 e_μ37) hT0.1 hT0.2.2.1 rfl (by decide) rfl (Nat.le_of_ble_eq_true rfl) (Nat.le_of_ble_eq_true rfl) (Nat.le_of_ble_eq_true rfl) (Nat.le_of_ble_eq_true rfl) (Nat.le_refl _) rfl rfl dX12_lakeLine_294 ?_
                            refine z_goto C0 300 dX12_lakeLine_297 (by decide) ?_
                            refine z_sub (lo1 := [(0, .ref (zb g + a0))]) [2] rfl ?_
                            obtain rfl := (Option.some.inj h)
                            exact k_J4
                          · have h := zif_f c51 h
                            refine z_join μ3 300 [(2, .int r2), (1, .int x1), (0, .ref (zb g + a0))] [] ?_ (fun k52 => ?_)
                            · refine z_sub (lo1 := [(0, .ref (zb g + a0))]) [2] rfl ?_
                              obtain rfl := (Option.some.inj h)
                              exact k_J4
                            · have c40 : r2.toInt ≠ 1 := fun q => c40 (Int32.toInt_inj.mp (q.trans (by decide)))
                              have c41 : r2.toInt ≠ 2 := fun q => c41 (Int32.toInt_inj.mp (q.trans (by decide)))
                              have c42 : r2.toInt ≠ 3 := fun q => c42 (Int32.toInt_inj.mp (q.trans (by decide)))
                              have c43 : r2.toInt ≠ 4 := fun q => c43 (Int32.toInt_inj.mp (q.trans (by decide)))
                              have c44 : r2.toInt ≠ 5 := fun q => c44 (Int32.toInt_inj.mp (q.trans (by decide)))
                              have c45 : r2.toInt ≠ 6 := fun q => c45 (Int32.toInt_inj.mp (q.trans (by decide)))
                              have c46 : r2.toInt ≠ 7 := fun q => c46 (Int32.toInt_inj.mp (q.trans (by decide)))
                              have c47 : r2.toInt ≠ 8 := fun q => c47 (Int32.toInt_inj.mp (q.trans (by decide)))
                              have c48 : r2.toInt ≠ 9 := fun q => c48 (Int32.toInt_inj.mp (q.trans (by decide)))
                              have c49 : r2.toInt ≠ 10 := fun q => c49 (Int32.toInt_inj.mp (q.trans (by decide)))
                              have c50 : r2.toInt ≠ 11 := fun q => c50 (Int32.toInt_inj.mp (q.trans (by decide)))
                              have c51 : r2.toInt ≠ 12 := fun q => c51 (Int32.toInt_inj.mp (q.trans (by decide)))
                              exact z_tabOut C0 300 dX12_lakeLine_14 (by omega) (by decide) k52
def f_X12_lawLine (a0 : Nat) (μ : zM) : Option (zM) :=
  zl (μ a0 4) fun x1 =>
  zbd2 (if ¬ (μ a0 7) = (8 : Int32) then
      zbd2 (f_X12_takes a0 (25 : Int32) (29 : Int32) μ) fun r4 μ5 =>
      some (((r4 - (25 : Int32)) + (1 : Int32)), μ5)
    else
      zbd2 (f_X12_takes a0 (8 : Int32) (8 : Int32) μ) fun r6 μ7 =>
      some ((r6 - (8 : Int32)), μ7)) fun x8 μ9 =>
  zl (if ((μ9 a0 8) = 0) ∧ (¬ ((μ9 (a0 + 3) 0) < (8 : Int32))) then
      zl (f_X12_also a0 (3 : Int32) x1 μ9) fun μ13 =>
      μ13
    else
      μ9) fun μ14 =>
  zbd2 (if (x8 = 0) ∨ (x8 = (3 : Int32)) then
      zbd2 (f_X12_numbered a0 (0 : Int32) (9 : Int32) μ14) fun r18 μ19 =>
      some (r18, μ19)
    else
      some ((-1 : Int32), μ14)) fun x20 μ21 =>
  zbd2 (if ¬ x8 = (1 : Int32) then
      some (x20, μ21)
    else
      zbd2 (f_X12_numbered a0 (0 : Int32) (999 : Int32) μ21) fun r24 μ25 =>
      some (r24, μ25)) fun x26 μ27 =>
  zbd2 (if ¬ x8 = (2 : Int32) then
      some (x26, μ27)
    else
      zbd2 (f_X12_numbered a0 (0 : Int32) (3 : Int32) μ27) fun r30 μ31 =>
      some (r30, μ31)) fun x32 μ33 =>
  zbd2 (if (x8 = (1 : Int32)) ∨ (x8 = (2 : Int32)) then
      zbd2 (f_X12_numbered a0 (0 : Int32) (99 : Int32) μ33) fun r37 μ38 =>
      some (r37, μ38)
    else
      some ((-1 : Int32), μ33)) fun x39 μ40 =>
  zbd2 (if ¬ x8 = (4 : Int32) then
      some (x32, μ40)
    else
      zbd2 (f_X12_numbered a0 (0 : Int32) (99 : Int32) μ40) fun r43 μ44 =>
      some (r43, μ44)) fun x45 μ46 =>
  zbd2 (if ¬ x8 = (5 : Int32) then
      some (x45, μ46)
    else
      zbd2 (f_X12_numbered a0 (0 : Int32) (999 : Int32) μ46) fun r49 μ50 =>
      some (r49, μ50)) fun x51 μ52 =>
  zbd (f_X12_adds a0 (8 : Int32) x8 x51 x39 μ52) fun μ53 =>
  zbd (f_X12_endsLine a0 μ53) fun μ54 =>
  some μ54
set_option maxHeartbeats 4000000 in
set_option maxRecDepth 100000 in
theorem r_X12_lawLine {l : Launch} {g : zL} (a0 : Nat) (μ : zM) (hT0 : zT zNN zσ1 a0 12) {μr : zM} (h : f_X12_lawLine a0 μ = some μr) : zMet l g yX12_lawLine cX12_lawLine 5 none 6 0 0 zNN zNN zσ1 zσ1 [.ref (zb g + a0)] μ none μr := by
  refine zMet.of (by decide +kernel) (Nat.le_of_ble_eq_true rfl) ?_
  intro p e s m args below meth c C0
  refine z_loc (lo1 := [(0, .ref (zb g + a0))]) rfl ?_
  unfold f_X12_lawLine at h
  refine z_aload_n C0 dX12_lawLine_0 rfl 0 rfl ?_
  refine z_geti C0 hT0.1 hT0.2.2.1 kf_12_76 zr_12_4 dX12_lawLine_1 ?_
  obtain ⟨x1, e_x1, h⟩ := zl_of h
  refine z_nm e_x1 ?_
  refine z_istore_n (lo1 := [(1, .int x1), (0, .ref (zb g + a0))]) C0 dX12_lawLine_4 rfl (by decide) rfl ?_
  refine z_aload_n C0 dX12_lawLine_5 rfl 1 rfl ?_
  refine z_geti C0 hT0.1 hT0.2.2.1 kf_12_93 zr_12_7 dX12_lawLine_6 ?_
  refine z_bipush (v := (8 : Int32)) C0 dX12_lawLine_9 (by decide) ?_
  obtain ⟨x8, μ9, e_x8, h⟩ := zbd2_of h
  refine z_join μ9 41 [(0, .ref (zb g + a0)), (1, .int x1)] [.int x8] ?_ (fun k_J3 => ?_)
  · refine z_istore_n (lo1 := [(2, .int x8), (0, .ref (zb g + a0)), (1, .int x1)]) C0 dX12_lawLine_41 rfl (by decide) rfl ?_
    refine z_aload_n C0 dX12_lawLine_42 rfl 1 rfl ?_
    refine z_geti C0 hT0.1 hT0.2.2.1 kf_12_102 zr_12_8 dX12_lawLine_43 ?_
    obtain ⟨μ14, e_μ14, h⟩ := zl_of h
    refine z_join μ14 66 [(0, .ref (zb g + a0)), (2, .int x8)] [] ?_ (fun k_J12 => ?_)
    · refine z_iconst (v := (-1 : Int32)) C0 dX12_lawLine_66 (by decide) ?_
      refine z_istore_n (lo1 := [(3, .int (-1 : Int32)), (0, .ref (zb g + a0)), (2, .int x8)]) C0 dX12_lawLine_67 rfl (by decide) rfl ?_
      refine z_iconst (v := (-1 : Int32)) C0 dX12_lawLine_68 (by decide) ?_
      refine z_istore (lo1 := [(4, .int (-1 : Int32)), (3, .int (-1 : Int32)), (0, .ref (zb g + a0)), (2, .int x8)]) C0 dX12_lawLine_69 (by decide) rfl ?_
      refine z_iload_n C0 dX12_lawLine_71 rfl 3 rfl ?_
      obtain ⟨x20, μ21, e_x20, h⟩ := zbd2_of h
      refine z_join μ21 88 [(0, .ref (zb g + a0)), (2, .int x8), (3, .int x20), (4, .int (-1 : Int32))] [] ?_ (fun k_J17 => ?_)
      · refine z_iload_n C0 dX12_lawLine_88 rfl 1 rfl ?_
        refine z_iconst (v := (1 : Int32)) C0 dX12_lawLine_89 (by decide) ?_
        obtain ⟨x26, μ27, e_x26, h⟩ := zbd2_of h
        refine z_join μ27 102 [(0, .ref (zb g + a0)), (2, .int x8), (3, .int x26), (4, .int (-1 : Int32))] [] ?_ (fun k_J23 => ?_)
        · refine z_iload_n C0 dX12_lawLine_102 rfl 1 rfl ?_
          refine z_iconst (v := (2 : Int32)) C0 dX12_lawLine_103 (by decide) ?_
          obtain ⟨x32, μ33, e_x32, h⟩ := zbd2_of h
          refine z_join μ33 114 [(0, .ref (zb g + a0)), (2, .int x8), (3, .int x32), (4, .int (-1 : Int32))] [] ?_ (fun k_J29 => ?_)
          · refine z_iload_n C0 dX12_lawLine_114 rfl 1 rfl ?_
            refine z_iconst (v := (1 : Int32)) C0 dX12_lawLine_115 (by decide) ?_
            obtain ⟨x39, μ40, e_x39, h⟩ := zbd2_of h
            refine z_join μ40 133 [(0, .ref (zb g + a0)), (2, .int x8), (3, .int x32), (4, .int x39)] [] ?_ (fun k_J36 => ?_)
            · refine z_iload_n C0 dX12_lawLine_133 rfl 1 rfl ?_
              refine z_iconst (v := (4 : Int32)) C0 dX12_lawLine_134 (by decide) ?_
              obtain ⟨x45, μ46, e_x45, h⟩ := zbd2_of h
              refine z_join μ46 146 [(0, .ref (zb g + a0)), (2, .int x8), (3, .int x45), (4, .int x39)] [] ?_ (fun k_J42 => ?_)
              · refine z_iload_n C0 dX12_lawLine_146 rfl 1 rfl ?_
                refine z_iconst (v := (5 : Int32)) C0 dX12_lawLine_147 (by decide) ?_
                obtain ⟨x51, μ52, e_x51, h⟩ := zbd2_of h
                refine z_join μ52 160 [(0, .ref (zb g + a0)), (2, .int x8), (3, .int x51), (4, .int x39)] [] ?_ (fun k_J48 => ?_)
                · refine z_aload_n C0 dX12_lawLine_160 rfl 0 rfl ?_
                  refine z_bipush (v := (8 : Int32)) C0 dX12_lawLine_161 (by decide) ?_
                  refine z_iload_n C0 dX12_lawLine_163 rfl 1 rfl ?_
                  refine z_iload_n C0 dX12_lawLine_164 rfl 2 rfl ?_
                  refine z_iload C0 dX12_lawLine_165 3 rfl ?_
                  obtain ⟨μ53, e_μ53, h⟩ := zbd_of h
                  refine z_callV (As := [.int (8 : Int32), .int x8, .int x51, .int x39]) (rest := []) C0 rfl kc_X12_adds km_RX12_140 (r_X12_adds (l := l) (g := g) a0 (8 : Int32) x8 x51 x39 μ52 hT0 e_μ53) hT0.1 hT0.2.2.1 rfl (by decide) rfl (Nat.le_of_ble_eq_true rfl) (Nat.le_of_ble_eq_true rfl) (Nat.le_of_ble_eq_true rfl) (Nat.le_of_ble_eq_true rfl) (Nat.le_refl _) rfl rfl dX12_lawLine_167 ?_
                  refine z_aload_n C0 dX12_lawLine_170 rfl 0 rfl ?_
                  obtain ⟨μ54, e_μ54, h⟩ := zbd_of h
                  refine z_callV (As := []) (rest := []) C0 rfl kc_X12_endsLine km_RX12_137 (r_X12_endsLine (l := l) (g := g) a0 μ53 hT0 e_μ54) hT0.1 hT0.2.2.1 rfl (by decide) rfl (Nat.le_of_ble_eq_true rfl) (Nat.le_of_ble_eq_true rfl) (Nat.le_of_ble_eq_true rfl) (Nat.le_of_ble_eq_true rfl) (Nat.le_refl _) rfl rfl dX12_lawLine_171 ?_
                  have h := Option.some.inj h
                  obtain rfl := h
                  exact z_vret C0 rfl dX12_lawLine_174
                · have h := e_x51
                  refine z_icmp_ne C0 160 dX12_lawLine_148 (by decide) (fun c47 => ?_) (fun c47 => ?_)
                  · have h := zif_t c47 h
                    obtain ⟨rfl, rfl⟩ := Prod.mk.inj (Option.some.inj h)
                    exact k_J48
                  · have h := zif_f (fun q => q c47) h
                    refine z_aload_n C0 dX12_lawLine_151 rfl 0 rfl ?_
                    refine z_iconst (v := (0 : Int32)) C0 dX12_lawLine_152 (by decide) ?_
                    refine z_sipush (v := (999 : Int32)) C0 dX12_lawLine_153 (by decide) ?_
                    obtain ⟨r49, μ50, e_r49, h⟩ := zbd2_of h
                    refine z_callV (As := [.int (0 : Int32), .int (999 : Int32)]) (rest := []) C0 rfl kc_X12_numbered km_RX12_123 (r_X12_numbered (l := l) (g := g) a0 (0 : Int32) (999 : Int32) μ46 hT0 e_r49) hT0.1 hT0.2.2.1 rfl (by decide) rfl (Nat.le_of_ble_eq_true rfl) (Nat.le_of_ble_eq_true rfl) (Nat.le_of_ble_eq_true rfl) (Nat.le_of_ble_eq_true rfl) (Nat.le_refl _) rfl rfl dX12_lawLine_156 ?_
                    refine z_istore_n (lo1 := [(3, .int r49), (0, .ref (zb g + a0)), (2, .int x8), (4, .int x39)]) C0 dX12_lawLine_159 rfl (by decide) rfl ?_
                    refine z_sub (lo1 := [(0, .ref (zb g + a0)), (2, .int x8), (3, .int r49), (4, .int x39)]) [1, 2, 0, 3] rfl ?_
                    obtain ⟨rfl, rfl⟩ := Prod.mk.inj (Option.some.inj h)
                    exact k_J48
              · have h := e_x45
                refine z_icmp_ne C0 146 dX12_lawLine_135 (by decide) (fun c41 => ?_) (fun c41 => ?_)
                · have h := zif_t c41 h
                  obtain ⟨rfl, rfl⟩ := Prod.mk.inj (Option.some.inj h)
                  exact k_J42
                · have h := zif_f (fun q => q c41) h
                  refine z_aload_n C0 dX12_lawLine_138 rfl 0 rfl ?_
                  refine z_iconst (v := (0 : Int32)) C0 dX12_lawLine_139 (by decide) ?_
                  refine z_bipush (v := (99 : Int32)) C0 dX12_lawLine_140 (by decide) ?_
                  obtain ⟨r43, μ44, e_r43, h⟩ := zbd2_of h
                  refine z_callV (As := [.int (0 : Int32), .int (99 : Int32)]) (rest := []) C0 rfl kc_X12_numbered km_RX12_123 (r_X12_numbered (l := l) (g := g) a0 (0 : Int32) (99 : Int32) μ40 hT0 e_r43) hT0.1 hT0.2.2.1 rfl (by decide) rfl (Nat.le_of_ble_eq_true rfl) (Nat.le_of_ble_eq_true rfl) (Nat.le_of_ble_eq_true rfl) (Nat.le_of_ble_eq_true rfl) (Nat.le_refl _) rfl rfl dX12_lawLine_142 ?_
                  refine z_istore_n (lo1 := [(3, .int r43), (0, .ref (zb g + a0)), (2, .int x8), (4, .int x39)]) C0 dX12_lawLine_145 rfl (by decide) rfl ?_
                  refine z_sub (lo1 := [(0, .ref (zb g + a0)), (2, .int x8), (3, .int r43), (4, .int x39)]) [1, 2, 0, 3] rfl ?_
                  obtain ⟨rfl, rfl⟩ := Prod.mk.inj (Option.some.inj h)
                  exact k_J42
            · have h := e_x39
              by_cases hc55 : (x8 = (1 : Int32)) ∨ (x8 = (2 : Int32))
              · have h := zif_t hc55 h
                refine z_join μ33 124 [(0, .ref (zb g + a0)), (2, .int x8), (3, .int x32), (4, .int (-1 : Int32))] [] ?_ (fun k56 => ?_)
                · refine z_aload_n C0 dX12_lawLine_124 rfl 0 rfl ?_
                  refine z_iconst (v := (0 : Int32)) C0 dX12_lawLine_125 (by decide) ?_
                  refine z_bipush (v := (99 : Int32)) C0 dX12_lawLine_126 (by decide) ?_
                  obtain ⟨r37, μ38, e_r37, h⟩ := zbd2_of h
                  refine z_callV (As := [.int (0 : Int32), .int (99 : Int32)]) (rest := []) C0 rfl kc_X12_numbered km_RX12_123 (r_X12_numbered (l := l) (g := g) a0 (0 : Int32) (99 : Int32) μ33 hT0 e_r37) hT0.1 hT0.2.2.1 rfl (by decide) rfl (Nat.le_of_ble_eq_true rfl) (Nat.le_of_ble_eq_true rfl) (Nat.le_of_ble_eq_true rfl) (Nat.le_of_ble_eq_true rfl) (Nat.le_refl _) rfl rfl dX12_lawLine_128 ?_
                  refine z_istore (lo1 := [(4, .int r37), (0, .ref (zb g + a0)), (2, .int x8), (3, .int x32)]) C0 dX12_lawLine_131 (by decide) rfl ?_
                  refine z_sub (lo1 := [(0, .ref (zb g + a0)), (2, .int x8), (3, .int x32), (4, .int r37)]) [1, 2, 3, 0] rfl ?_
                  obtain ⟨rfl, rfl⟩ := Prod.mk.inj (Option.some.inj h)
                  exact k_J36
                · refine z_icmp_eq C0 124 dX12_lawLine_116 (by decide) (fun c34 => ?_) (fun c34 => ?_)
                  · exact k56
                  · refine z_iload_n C0 dX12_lawLine_119 rfl 1 rfl ?_
                    refine z_iconst (v := (2 : Int32)) C0 dX12_lawLine_120 (by decide) ?_
                    refine z_icmp_ne C0 133 dX12_lawLine_121 (by decide) (fun c35 => ?_) (fun c35 => ?_)
                    · exact absurd hc55 (fun q => q.elim c34 (fun q => c35 q))
                    · exact k56
              · have h := zif_f hc55 h
                refine z_join μ33 133 [(0, .ref (zb g + a0)), (2, .int x8), (3, .int x32), (4, .int (-1 : Int32))] [] ?_ (fun k57 => ?_)
                · obtain ⟨rfl, rfl⟩ := Prod.mk.inj (Option.some.inj h)
                  exact k_J36
                · refine z_icmp_eq C0 124 dX12_lawLine_116 (by decide) (fun c34 => ?_) (fun c34 => ?_)
                  · exact absurd (Or.inl c34) hc55
                  · refine z_iload_n C0 dX12_lawLine_119 rfl 1 rfl ?_
                    refine z_iconst (v := (2 : Int32)) C0 dX12_lawLine_120 (by decide) ?_
                    refine z_icmp_ne C0 133 dX12_lawLine_121 (by decide) (fun c35 => ?_) (fun c35 => ?_)
                    · exact k57
                    · exact absurd (Or.inr c35) hc55
          · have h := e_x32
            refine z_icmp_ne C0 114 dX12_lawLine_104 (by decide) (fun c28 => ?_) (fun c28 => ?_)
            · have h := zif_t c28 h
              obtain ⟨rfl, rfl⟩ := Prod.mk.inj (Option.some.inj h)
              exact k_J29
            · have h := zif_f (fun q => q c28) h
              refine z_aload_n C0 dX12_lawLine_107 rfl 0 rfl ?_
              refine z_iconst (v := (0 : Int32)) C0 dX12_lawLine_108 (by decide) ?_
              refine z_iconst (v := (3 : Int32)) C0 dX12_lawLine_109 (by decide) ?_
              obtain ⟨r30, μ31, e_r30, h⟩ := zbd2_of h
              refine z_callV (As := [.int (0 : Int32), .int (3 : Int32)]) (rest := []) C0 rfl kc_X12_numbered km_RX12_123 (r_X12_numbered (l := l) (g := g) a0 (0 : Int32) (3 : Int32) μ27 hT0 e_r30) hT0.1 hT0.2.2.1 rfl (by decide) rfl (Nat.le_of_ble_eq_true rfl) (Nat.le_of_ble_eq_true rfl) (Nat.le_of_ble_eq_true rfl) (Nat.le_of_ble_eq_true rfl) (Nat.le_refl _) rfl rfl dX12_lawLine_110 ?_
              refine z_istore_n (lo1 := [(3, .int r30), (0, .ref (zb g + a0)), (2, .int x8), (4, .int (-1 : Int32))]) C0 dX12_lawLine_113 rfl (by decide) rfl ?_
              refine z_sub (lo1 := [(0, .ref (zb g + a0)), (2, .int x8), (3, .int r30), (4, .int (-1 : Int32))]) [1, 2, 0, 3] rfl ?_
              obtain ⟨rfl, rfl⟩ := Prod.mk.inj (Option.some.inj h)
              exact k_J29
        · have h := e_x26
          refine z_icmp_ne C0 102 dX12_lawLine_90 (by decide) (fun c22 => ?_) (fun c22 => ?_)
          · have h := zif_t c22 h
            obtain ⟨rfl, rfl⟩ := Prod.mk.inj (Option.some.inj h)
            exact k_J23
          · have h := zif_f (fun q => q c22) h
            refine z_aload_n C0 dX12_lawLine_93 rfl 0 rfl ?_
            refine z_iconst (v := (0 : Int32)) C0 dX12_lawLine_94 (by decide) ?_
            refine z_sipush (v := (999 : Int32)) C0 dX12_lawLine_95 (by decide) ?_
            obtain ⟨r24, μ25, e_r24, h⟩ := zbd2_of h
            refine z_callV (As := [.int (0 : Int32), .int (999 : Int32)]) (rest := []) C0 rfl kc_X12_numbered km_RX12_123 (r_X12_numbered (l := l) (g := g) a0 (0 : Int32) (999 : Int32) μ21 hT0 e_r24) hT0.1 hT0.2.2.1 rfl (by decide) rfl (Nat.le_of_ble_eq_true rfl) (Nat.le_of_ble_eq_true rfl) (Nat.le_of_ble_eq_true rfl) (Nat.le_of_ble_eq_true rfl) (Nat.le_refl _) rfl rfl dX12_lawLine_98 ?_
            refine z_istore_n (lo1 := [(3, .int r24), (0, .ref (zb g + a0)), (2, .int x8), (4, .int (-1 : Int32))]) C0 dX12_lawLine_101 rfl (by decide) rfl ?_
            refine z_sub (lo1 := [(0, .ref (zb g + a0)), (2, .int x8), (3, .int r24), (4, .int (-1 : Int32))]) [1, 2, 0, 3] rfl ?_
            obtain ⟨rfl, rfl⟩ := Prod.mk.inj (Option.some.inj h)
            exact k_J23
      · have h := e_x20
        by_cases hc58 : (x8 = 0) ∨ (x8 = (3 : Int32))
        · have h := zif_t hc58 h
          refine z_join μ14 80 [(4, .int (-1 : Int32)), (3, .int (-1 : Int32)), (0, .ref (zb g + a0)), (2, .int x8)] [] ?_ (fun k59 => ?_)
          · refine z_aload_n C0 dX12_lawLine_80 rfl 2 rfl ?_
            refine z_iconst (v := (0 : Int32)) C0 dX12_lawLine_81 (by decide) ?_
            refine z_bipush (v := (9 : Int32)) C0 dX12_lawLine_82 (by decide) ?_
            obtain ⟨r18, μ19, e_r18, h⟩ := zbd2_of h
            refine z_callV (As := [.int (0 : Int32), .int (9 : Int32)]) (rest := []) C0 rfl kc_X12_numbered km_RX12_123 (r_X12_numbered (l := l) (g := g) a0 (0 : Int32) (9 : Int32) μ14 hT0 e_r18) hT0.1 hT0.2.2.1 rfl (by decide) rfl (Nat.le_of_ble_eq_true rfl) (Nat.le_of_ble_eq_true rfl) (Nat.le_of_ble_eq_true rfl) (Nat.le_of_ble_eq_true rfl) (Nat.le_refl _) rfl rfl dX12_lawLine_84 ?_
            refine z_istore_n (lo1 := [(3, .int r18), (4, .int (-1 : Int32)), (0, .ref (zb g + a0)), (2, .int x8)]) C0 dX12_lawLine_87 rfl (by decide) rfl ?_
            refine z_sub (lo1 := [(0, .ref (zb g + a0)), (2, .int x8), (3, .int r18), (4, .int (-1 : Int32))]) [2, 3, 0, 1] rfl ?_
            obtain ⟨rfl, rfl⟩ := Prod.mk.inj (Option.some.inj h)
            exact k_J17
          · refine z_if_eq C0 80 dX12_lawLine_72 (by decide) (fun c15 => ?_) (fun c15 => ?_)
            · exact k59
            · refine z_iload_n C0 dX12_lawLine_75 rfl 3 rfl ?_
              refine z_iconst (v := (3 : Int32)) C0 dX12_lawLine_76 (by decide) ?_
              refine z_icmp_ne C0 88 dX12_lawLine_77 (by decide) (fun c16 => ?_) (fun c16 => ?_)
              · exact absurd hc58 (fun q => q.elim c15 (fun q => c16 q))
              · exact k59
        · have h := zif_f hc58 h
          refine z_join μ14 88 [(4, .int (-1 : Int32)), (3, .int (-1 : Int32)), (0, .ref (zb g + a0)), (2, .int x8)] [] ?_ (fun k60 => ?_)
          · refine z_sub (lo1 := [(0, .ref (zb g + a0)), (2, .int x8), (3, .int (-1 : Int32)), (4, .int (-1 : Int32))]) [2, 3, 1, 0] rfl ?_
            obtain ⟨rfl, rfl⟩ := Prod.mk.inj (Option.some.inj h)
            exact k_J17
          · refine z_if_eq C0 80 dX12_lawLine_72 (by decide) (fun c15 => ?_) (fun c15 => ?_)
            · exact absurd (Or.inl c15) hc58
            · refine z_iload_n C0 dX12_lawLine_75 rfl 3 rfl ?_
              refine z_iconst (v := (3 : Int32)) C0 dX12_lawLine_76 (by decide) ?_
              refine z_icmp_ne C0 88 dX12_lawLine_77 (by decide) (fun c16 => ?_) (fun c16 => ?_)
              · exact k60
              · exact absurd (Or.inr c16) hc58
    · have h := e_μ14.symm
      by_cases hc61 : ((μ9 a0 8) = 0) ∧ (¬ ((μ9 (a0 + 3) 0) < (8 : Int32)))
      · have h := zif_t hc61 h
        refine z_join μ9 60 [(2, .int x8), (0, .ref (zb g + a0)), (1, .int x1)] [] ?_ (fun k62 => ?_)
        · refine z_aload_n C0 dX12_lawLine_60 rfl 1 rfl ?_
          refine z_iconst (v := (3 : Int32)) C0 dX12_lawLine_61 (by decide) ?_
          refine z_iload_n C0 dX12_lawLine_62 rfl 2 rfl ?_
          obtain ⟨μ13, e_μ13, h⟩ := zl_of h
          refine z_callV (As := [.int (3 : Int32), .int x1]) (rest := []) C0 rfl kc_X12_also km_RX12_113 (r_X12_also (l := l) (g := g) a0 (3 : Int32) x1 μ9 hT0 e_μ13.symm) hT0.1 hT0.2.2.1 rfl (by decide) rfl (Nat.le_of_ble_eq_true rfl) (Nat.le_of_ble_eq_true rfl) (Nat.le_of_ble_eq_true rfl) (Nat.le_of_ble_eq_true rfl) (Nat.le_refl _) rfl rfl dX12_lawLine_63 ?_
          refine z_sub (lo1 := [(0, .ref (zb g + a0)), (2, .int x8)]) [1, 0] rfl ?_
          obtain rfl := h
          exact k_J12
        · refine z_if_ne C0 66 dX12_lawLine_46 (by decide) (fun c10 => ?_) (fun c10 => ?_)
          · exact absurd hc61 (fun q => c10 q.1)
          · refine z_aload_n C0 dX12_lawLine_49 rfl 1 rfl ?_
            refine z_getr C0 hT0 kf_12_17 zr_12_9 zx_12 (zs_12_9 hT0).1 dX12_lawLine_50 ?_
            refine z_iconst (v := (0 : Int32)) C0 dX12_lawLine_53 (by decide) ?_
            refine z_iald (j := 0) C0 (zs_12_9 hT0).2 (by decide : zin (0 : Int32) 121 = true) (by decide) dX12_lawLine_54 ?_
            refine z_bipush (v := (8 : Int32)) C0 dX12_lawLine_55 (by decide) ?_
            refine z_icmp_lt C0 66 dX12_lawLine_57 (by decide) (fun c11 => ?_) (fun c11 => ?_)
            · exact absurd hc61 (fun q => (fun q => q c11) q.2)
            · exact k62
      · have h := zif_f hc61 h
        refine z_join μ9 66 [(2, .int x8), (0, .ref (zb g + a0)), (1, .int x1)] [] ?_ (fun k63 => ?_)
        · refine z_sub (lo1 := [(0, .ref (zb g + a0)), (2, .int x8)]) [1, 0] rfl ?_
          obtain rfl := h
          exact k_J12
        · refine z_if_ne C0 66 dX12_lawLine_46 (by decide) (fun c10 => ?_) (fun c10 => ?_)
          · exact k63
          · refine z_aload_n C0 dX12_lawLine_49 rfl 1 rfl ?_
            refine z_getr C0 hT0 kf_12_17 zr_12_9 zx_12 (zs_12_9 hT0).1 dX12_lawLine_50 ?_
            refine z_iconst (v := (0 : Int32)) C0 dX12_lawLine_53 (by decide) ?_
            refine z_iald (j := 0) C0 (zs_12_9 hT0).2 (by decide : zin (0 : Int32) 121 = true) (by decide) dX12_lawLine_54 ?_
            refine z_bipush (v := (8 : Int32)) C0 dX12_lawLine_55 (by decide) ?_
            refine z_icmp_lt C0 66 dX12_lawLine_57 (by decide) (fun c11 => ?_) (fun c11 => ?_)
            · exact k63
            · exact absurd ⟨c10, c11⟩ hc61
  · have h := e_x8
    refine z_icmp_ne C0 28 dX12_lawLine_11 (by decide) (fun c2 => ?_) (fun c2 => ?_)
    · have h := zif_t c2 h
      refine z_aload_n C0 dX12_lawLine_28 rfl 1 rfl ?_
      refine z_bipush (v := (25 : Int32)) C0 dX12_lawLine_29 (by decide) ?_
      refine z_bipush (v := (29 : Int32)) C0 dX12_lawLine_31 (by decide) ?_
      obtain ⟨r4, μ5, e_r4, h⟩ := zbd2_of h
      refine z_callV (As := [.int (25 : Int32), .int (29 : Int32)]) (rest := []) C0 rfl kc_X12_takes km_RX12_127 (r_X12_takes (l := l) (g := g) a0 (25 : Int32) (29 : Int32) μ hT0 e_r4) hT0.1 hT0.2.2.1 rfl (by decide) rfl (Nat.le_of_ble_eq_true rfl) (Nat.le_of_ble_eq_true rfl) (Nat.le_of_ble_eq_true rfl) (Nat.le_of_ble_eq_true rfl) (Nat.le_refl _) rfl rfl dX12_lawLine_33 ?_
      refine z_bipush (v := (25 : Int32)) C0 dX12_lawLine_36 (by decide) ?_
      refine z_isub C0 dX12_lawLine_38 ?_
      refine z_iconst (v := (1 : Int32)) C0 dX12_lawLine_39 (by decide) ?_
      refine z_iadd C0 dX12_lawLine_40 ?_
      refine z_sub (lo1 := [(0, .ref (zb g + a0)), (1, .int x1)]) [1, 0] rfl ?_
      obtain ⟨rfl, rfl⟩ := Prod.mk.inj (Option.some.inj h)
      exact k_J3
    · have h := zif_f (fun q => q c2) h
      refine z_aload_n C0 dX12_lawLine_14 rfl 1 rfl ?_
      refine z_bipush (v := (8 : Int32)) C0 dX12_lawLine_15 (by decide) ?_
      refine z_bipush (v := (8 : Int32)) C0 dX12_lawLine_17 (by decide) ?_
      obtain ⟨r6, μ7, e_r6, h⟩ := zbd2_of h
      refine z_callV (As := [.int (8 : Int32), .int (8 : Int32)]) (rest := []) C0 rfl kc_X12_takes km_RX12_127 (r_X12_takes (l := l) (g := g) a0 (8 : Int32) (8 : Int32) μ hT0 e_r6) hT0.1 hT0.2.2.1 rfl (by decide) rfl (Nat.le_of_ble_eq_true rfl) (Nat.le_of_ble_eq_true rfl) (Nat.le_of_ble_eq_true rfl) (Nat.le_of_ble_eq_true rfl) (Nat.le_refl _) rfl rfl dX12_lawLine_19 ?_
      refine z_bipush (v := (8 : Int32)) C0 dX12_lawLine_22 (by decide) ?_
      refine z_isub C0 dX12_lawLine_24 ?_
      refine z_goto C0 41 dX12_lawLine_25 (by decide) ?_
      refine z_sub (lo1 := [(0, .ref (zb g + a0)), (1, .int x1)]) [1, 0] rfl ?_
      obtain ⟨rfl, rfl⟩ := Prod.mk.inj (Option.some.inj h)
      exact k_J3
def f_X12_lies_L121 (a0 : Nat) (v2 : Int32) (x6 : Int32) (x14 : Int32) (μ20 : zM) : Nat → Int32 → Int32 → Option (Int32)
  | 0, _, _ => none
  | n + 1, y18, y19 =>
    if (8 : Int32) ≤ y19 then
      some y18
    else
      zg (zin (((μ20 a0 35) + (1 : Int32)) + x14) 4688) <|
      zbd (zbd (if ¬ (((μ20 (a0 + 1) ((((μ20 a0 35) + (1 : Int32)) + x14).toNatClampNeg)) >>> (y19 &&& 31)) &&& (1 : Int32)) = (1 : Int32) then
            some false
          else
            zg (zin (((256 : Int32) * (x6 &&& (((1 : Int32) <<< (x14 &&& 31)) ^^^ (-1 : Int32)))) + ((255 : Int32) &&& (((1 : Int32) <<< (y19 &&& 31)) ^^^ (-1 : Int32)))) 65536) <|
            if (μ20 (a0 + 13) ((((256 : Int32) * (x6 &&& (((1 : Int32) <<< (x14 &&& 31)) ^^^ (-1 : Int32)))) + ((255 : Int32) &&& (((1 : Int32) <<< (y19 &&& 31)) ^^^ (-1 : Int32)))).toNatClampNeg)) ≤ 0 then
              some false
            else
              some true) fun b27 =>
        if b27 = true then
          some ((1 : Int32) <<< (y19 &&& 31))
        else
          some (0 : Int32)) fun x29 =>
      zl (y18 ||| x29) fun x30 =>
      zl (y19 + (1 : Int32)) fun x31 =>
      f_X12_lies_L121 a0 v2 x6 x14 μ20 n x30 x31
def f_X12_lies (a0 : Nat) (v1 : Int32) (v2 : Int32) (μ : zM) : Option (Int32 × zM) :=
  zbd (f_X12_isOf a0 (3 : Int32) v1 μ) fun r1 =>
  if ¬ r1 = 0 then
    zl (zup μ a0 35 (f_X12_placeOf (3 : Int32) v1)) fun μ3 =>
    zbd (f_X12_counts a0 μ3) fun μ4 =>
    zg (zin (μ4 a0 35) 4688) <|
    zl (((1 : Int32) <<< ((μ4 (a0 + 1) ((μ4 a0 35).toNatClampNeg)) &&& 31)) - (1 : Int32)) fun x6 =>
    zg (zin (((256 : Int32) * x6) + (255 : Int32)) 65536) <|
    zl (μ4 (a0 + 13) ((((256 : Int32) * x6) + (255 : Int32)).toNatClampNeg)) fun x8 =>
    if ¬ v2 = 0 then
      if ¬ v2 = (1 : Int32) then
        zl (v2 % (10 : Int32)) fun x14 =>
        if (¬ ((f_X12_isIn v2 (10 : Int32) (29 : Int32)) = 0)) ∧ (x14 < (μ4 (a0 + 1) ((μ4 a0 35).toNatClampNeg))) then
          zbd (f_X12_lies_L121 a0 v2 x6 x14 μ4 zFU (0 : Int32) (0 : Int32)) fun x32 =>
          zbd (if v2 < (20 : Int32) then
              zbd (f_X12_bits x32) fun r39 =>
              if ¬ r39 = (1 : Int32) then
                some (-1 : Int32)
              else
                zbd (f_X12_lowest a0 x32) fun r41 =>
                some r41
            else
              some x32) fun x42 =>
          some (x42, μ4)
        else
          some ((-2 : Int32), μ4)
      else
        zbd (if ¬ x8 = 0 then
            zbd (f_X12_dig a0 μ4) fun r45 =>
            some r45
          else
            some (-1 : Int32)) fun x46 =>
        some (x46, μ4)
    else
      some (x8, μ4)
  else
    some ((-2 : Int32), μ)
set_option maxHeartbeats 4000000 in
set_option maxRecDepth 100000 in
theorem r_X12_lies_L121 {l : Launch} {g : zL} {p : Program} {e : Env} {s : State} {m : MethodId} {args : Array Value} {below : List Frame} {meth : Method} {c : Code} {Q : State → Prop} (C0 : zC p s m args meth c g cX12_lies yX12_lies 8 (some (.int))) (a0 : Nat) (v2 : Int32) (x6 : Int32) (x14 : Int32) (μ20 : zM) (hU17 : zT zNN zσ1 a0 12) : ∀ (n : Nat) (y18 : Int32) (y19 : Int32) (x32 : Int32), f_X12_lies_L121 a0 v2 x6 x14 μ20 n y18 y19 = some x32 → Z p l e (zrm 2 0 0) s m args below meth c g Q 8 zNN 0 0 zσ1 μ20 201 [(0, .ref (zb g + a0)), (2, .int v2), (6, .int x32)] [] → Z p l e (zrm 2 0 0) s m args below meth c g Q 8 zNN 0 0 zσ1 μ20 121 [(0, .ref (zb g + a0)), (2, .int v2), (3, .int x6), (5, .int x14), (6, .int y18), (7, .int y19)] [] := by
  intro n
  induction n with
  | zero =>
    intro y18 y19 x32 h kx
    rw [f_X12_lies_L121] at h
    cases h
  | succ n ih =>
    intro y18 y19 x32 h kx
    rw [f_X12_lies_L121] at h
    refine z_iload C0 dX12_lies_121 5 rfl ?_
    refine z_bipush (v := (8 : Int32)) C0 dX12_lies_123 (by decide) ?_
    refine z_icmp_ge C0 201 dX12_lies_125 (by decide) (fun c21 => ?_) (fun c21 => ?_)
    · have h := zif_t c21 h
      refine z_sub (lo1 := [(0, .ref (zb g + a0)), (2, .int v2), (6, .int y18)]) [0, 1, 4] rfl ?_
      obtain rfl := (Option.some.inj h)
      exact kx
    · have h := zif_f c21 h
      refine z_iload C0 dX12_lies_128 4 rfl ?_
      refine z_aload_n C0 dX12_lies_130 rfl 0 rfl ?_
      refine z_getr C0 hU17 kf_12_7 zr_12_0 zx_12 (zs_12_0 hU17).1 dX12_lies_131 ?_
      refine z_aload_n C0 dX12_lies_134 rfl 0 rfl ?_
      refine z_geti C0 hU17.1 hU17.2.2.1 kf_12_396 zr_12_35 dX12_lies_135 ?_
      refine z_iconst (v := (1 : Int32)) C0 dX12_lies_138 (by decide) ?_
      refine z_iadd C0 dX12_lies_139 ?_
      refine z_iload C0 dX12_lies_140 3 rfl ?_
      refine z_iadd C0 dX12_lies_142 ?_
      obtain ⟨g22, h⟩ := zg_of h
      refine z_iald C0 (zs_12_0 hU17).2 g22 rfl dX12_lies_143 ?_
      refine z_iload C0 dX12_lies_144 5 rfl ?_
      refine z_ishr C0 dX12_lies_146 ?_
      refine z_iconst (v := (1 : Int32)) C0 dX12_lies_147 (by decide) ?_
      refine z_iand C0 dX12_lies_148 ?_
      refine z_iconst (v := (1 : Int32)) C0 dX12_lies_149 (by decide) ?_
      obtain ⟨x29, e_x29, h⟩ := zbd_of h
      refine z_join μ20 192 [(0, .ref (zb g + a0)), (2, .int v2), (3, .int x6), (5, .int x14), (7, .int y19)] [.int x29, .int y18] ?_ (fun k_J28 => ?_)
      · refine z_ior C0 dX12_lies_192 ?_
        obtain ⟨x30, e_x30, h⟩ := zl_of h
        refine z_nm e_x30 ?_
        refine z_istore (lo1 := [(6, .int x30), (0, .ref (zb g + a0)), (2, .int v2), (3, .int x6), (5, .int x14), (7, .int y19)]) C0 dX12_lies_193 (by decide) rfl ?_
        obtain ⟨x31, e_x31, h⟩ := zl_of h
        refine z_iinc (lo1 := [(7, .int x31), (6, .int x30), (0, .ref (zb g + a0)), (2, .int v2), (3, .int x6), (5, .int x14)]) C0 dX12_lies_195 5 rfl (by decide) e_x31.symm (by decide) rfl ?_
        refine z_goto C0 121 dX12_lies_198 (by decide) ?_
        refine z_sub (lo1 := [(0, .ref (zb g + a0)), (2, .int v2), (3, .int x6), (5, .int x14), (6, .int x30), (7, .int x31)]) [2, 3, 4, 5, 1, 0] rfl ?_
        exact ih _ _ _ h kx
      · have h := e_x29
        obtain ⟨b27, e_b27, h⟩ := zbd_of h
        refine z_joinb b27 μ20 184 191 [(0, .ref (zb g + a0)), (2, .int v2), (3, .int x6), (5, .int x14), (6, .int y18), (7, .int y19)] [.int y18] (fun z49 => ?_) (fun z49 => ?_) (fun k47 k48 => ?_)
        · have h := zif_t z49 h
          refine z_iconst (v := (1 : Int32)) C0 dX12_lies_184 (by decide) ?_
          refine z_iload C0 dX12_lies_185 5 rfl ?_
          refine z_ishl C0 dX12_lies_187 ?_
          refine z_goto C0 192 dX12_lies_188 (by decide) ?_
          refine z_sub (lo1 := [(0, .ref (zb g + a0)), (2, .int v2), (3, .int x6), (5, .int x14), (7, .int y19)]) [0, 1, 2, 3, 5] rfl ?_
          obtain rfl := (Option.some.inj h)
          exact k_J28
        · have h := zif_f (fun q => Bool.noConfusion (z49.symm.trans q)) h
          refine z_iconst (v := (0 : Int32)) C0 dX12_lies_191 (by decide) ?_
          refine z_sub (lo1 := [(0, .ref (zb g + a0)), (2, .int v2), (3, .int x6), (5, .int x14), (7, .int y19)]) [0, 1, 2, 3, 5] rfl ?_
          obtain rfl := (Option.some.inj h)
          exact k_J28
        · have h := e_b27
          refine z_icmp_ne C0 191 dX12_lies_150 (by decide) (fun c23 => ?_) (fun c23 => ?_)
          · have h := zif_t c23 h
            exact k48 (Option.some.inj h).symm
          · have h := zif_f (fun q => q c23) h
            refine z_aload_n C0 dX12_lies_153 rfl 0 rfl ?_
            refine z_getr C0 hU17 kf_12_48 zr_12_36 zx_12 (zs_12_36 hU17).1 dX12_lies_154 ?_
            refine z_sipush (v := (256 : Int32)) C0 dX12_lies_157 (by decide) ?_
            refine z_iload_n C0 dX12_lies_160 rfl 2 rfl ?_
            refine z_iconst (v := (1 : Int32)) C0 dX12_lies_161 (by decide) ?_
            refine z_iload C0 dX12_lies_162 3 rfl ?_
            refine z_ishl C0 dX12_lies_164 ?_
            refine z_iconst (v := (-1 : Int32)) C0 dX12_lies_165 (by decide) ?_
            refine z_ixor C0 dX12_lies_166 ?_
            refine z_iand C0 dX12_lies_167 ?_
            refine z_imul C0 dX12_lies_168 ?_
            refine z_sipush (v := (255 : Int32)) C0 dX12_lies_169 (by decide) ?_
            refine z_iconst (v := (1 : Int32)) C0 dX12_lies_172 (by decide) ?_
            refine z_iload C0 dX12_lies_173 5 rfl ?_
            refine z_ishl C0 dX12_lies_175 ?_
            refine z_iconst (v := (-1 : Int32)) C0 dX12_lies_176 (by decide) ?_
            refine z_ixor C0 dX12_lies_177 ?_
            refine z_iand C0 dX12_lies_178 ?_
            refine z_iadd C0 dX12_lies_179 ?_
            obtain ⟨g25, h⟩ := zg_of h
            refine z_iald C0 (zs_12_36 hU17).2 g25 rfl dX12_lies_180 ?_
            refine z_if_le C0 191 dX12_lies_181 (by decide) (fun c26 => ?_) (fun c26 => ?_)
            · have h := zif_t c26 h
              exact k48 (Option.some.inj h).symm
            · have h := zif_f c26 h
              exact k47 (Option.some.inj h).symm
set_option maxHeartbeats 4000000 in
set_option maxRecDepth 100000 in
theorem r_X12_lies {l : Launch} {g : zL} (a0 : Nat) (v1 : Int32) (v2 : Int32) (μ : zM) (hT0 : zT zNN zσ1 a0 12) {rv : Int32} {μr : zM} (h : f_X12_lies a0 v1 v2 μ = some (rv, μr)) : zMet l g yX12_lies cX12_lies 8 (some (.int)) 2 0 0 zNN zNN zσ1 zσ1 [.ref (zb g + a0), .int v1, .int v2] μ (some (.int rv)) μr := by
  refine zMet.of (by decide +kernel) (Nat.le_of_ble_eq_true rfl) ?_
  intro p e s m args below meth c C0
  refine z_loc (lo1 := [(0, .ref (zb g + a0)), (1, .int v1), (2, .int v2)]) rfl ?_
  unfold f_X12_lies at h
  refine z_aload_n C0 dX12_lies_0 rfl 0 rfl ?_
  refine z_iconst (v := (3 : Int32)) C0 dX12_lies_1 (by decide) ?_
  refine z_iload_n C0 dX12_lies_2 rfl 1 rfl ?_
  obtain ⟨r1, e_r1, h⟩ := zbd_of h
  refine z_callV (As := [.int (3 : Int32), .int v1]) (rest := []) C0 rfl kc_X12_isOf km_RX12_144 (r_X12_isOf (l := l) (g := g) a0 (3 : Int32) v1 μ hT0 e_r1) hT0.1 hT0.2.2.1 rfl (by decide) rfl (Nat.le_of_ble_eq_true rfl) (Nat.le_of_ble_eq_true rfl) (Nat.le_of_ble_eq_true rfl) (Nat.le_of_ble_eq_true rfl) (Nat.le_refl _) rfl rfl dX12_lies_3 ?_
  refine z_if_ne C0 12 dX12_lies_6 (by decide) (fun c2 => ?_) (fun c2 => ?_)
  · have h := zif_t c2 h
    refine z_aload_n C0 dX12_lies_12 rfl 0 rfl ?_
    refine z_iconst (v := (3 : Int32)) C0 dX12_lies_13 (by decide) ?_
    refine z_iload_n C0 dX12_lies_14 rfl 1 rfl ?_
    refine z_callS (As := [.int (3 : Int32), .int v1]) (rest := [.ref (zb g + a0)]) C0 rfl kc_X12_placeOf km_RX12_174 (r_X12_placeOf (l := l) (g := g) (μ := μ) (3 : Int32) v1 rfl) rfl (Nat.le_of_ble_eq_true rfl) (Nat.le_of_ble_eq_true rfl) (Nat.le_of_ble_eq_true rfl) (Nat.le_of_ble_eq_true rfl) (Nat.le_refl _) rfl rfl dX12_lies_15 ?_
    obtain ⟨μ3, e_μ3, h⟩ := zl_of h
    refine z_puti C0 hT0.1 hT0.2.2.1 kf_12_396 zp_12_35 zr_12_35 e_μ3 dX12_lies_18 ?_
    refine z_aload_n C0 dX12_lies_21 rfl 0 rfl ?_
    obtain ⟨μ4, e_μ4, h⟩ := zbd_of h
    refine z_callV (As := []) (rest := []) C0 rfl kc_X12_counts km_RX12_405 (r_X12_counts (l := l) (g := g) a0 μ3 hT0 e_μ4) hT0.1 hT0.2.2.1 rfl (by decide) rfl (Nat.le_of_ble_eq_true rfl) (Nat.le_of_ble_eq_true rfl) (Nat.le_of_ble_eq_true rfl) (Nat.le_of_ble_eq_true rfl) (Nat.le_refl _) rfl rfl dX12_lies_22 ?_
    refine z_iconst (v := (1 : Int32)) C0 dX12_lies_25 (by decide) ?_
    refine z_aload_n C0 dX12_lies_26 rfl 0 rfl ?_
    refine z_getr C0 hT0 kf_12_7 zr_12_0 zx_12 (zs_12_0 hT0).1 dX12_lies_27 ?_
    refine z_aload_n C0 dX12_lies_30 rfl 0 rfl ?_
    refine z_geti C0 hT0.1 hT0.2.2.1 kf_12_396 zr_12_35 dX12_lies_31 ?_
    obtain ⟨g5, h⟩ := zg_of h
    refine z_iald C0 (zs_12_0 hT0).2 g5 rfl dX12_lies_34 ?_
    refine z_ishl C0 dX12_lies_35 ?_
    refine z_iconst (v := (1 : Int32)) C0 dX12_lies_36 (by decide) ?_
    refine z_isub C0 dX12_lies_37 ?_
    obtain ⟨x6, e_x6, h⟩ := zl_of h
    refine z_nm e_x6 ?_
    refine z_istore_n (lo1 := [(3, .int x6), (0, .ref (zb g + a0)), (1, .int v1), (2, .int v2)]) C0 dX12_lies_38 rfl (by decide) rfl ?_
    refine z_aload_n C0 dX12_lies_39 rfl 1 rfl ?_
    refine z_getr C0 hT0 kf_12_48 zr_12_36 zx_12 (zs_12_36 hT0).1 dX12_lies_40 ?_
    refine z_sipush (v := (256 : Int32)) C0 dX12_lies_43 (by decide) ?_
    refine z_iload_n C0 dX12_lies_46 rfl 0 rfl ?_
    refine z_imul C0 dX12_lies_47 ?_
    refine z_sipush (v := (255 : Int32)) C0 dX12_lies_48 (by decide) ?_
    refine z_iadd C0 dX12_lies_51 ?_
    obtain ⟨g7, h⟩ := zg_of h
    refine z_iald C0 (zs_12_36 hT0).2 g7 rfl dX12_lies_52 ?_
    obtain ⟨x8, e_x8, h⟩ := zl_of h
    refine z_nm e_x8 ?_
    refine z_istore (lo1 := [(4, .int x8), (3, .int x6), (0, .ref (zb g + a0)), (1, .int v1), (2, .int v2)]) C0 dX12_lies_53 (by decide) rfl ?_
    refine z_iload_n C0 dX12_lies_55 rfl 4 rfl ?_
    refine z_if_ne C0 62 dX12_lies_56 (by decide) (fun c9 => ?_) (fun c9 => ?_)
    · have h := zif_t c9 h
      refine z_iload_n C0 dX12_lies_62 rfl 4 rfl ?_
      refine z_iconst (v := (1 : Int32)) C0 dX12_lies_63 (by decide) ?_
      refine z_icmp_ne C0 81 dX12_lies_64 (by decide) (fun c12 => ?_) (fun c12 => ?_)
      · have h := zif_t c12 h
        refine z_iload_n C0 dX12_lies_81 rfl 4 rfl ?_
        refine z_bipush (v := (10 : Int32)) C0 dX12_lies_82 (by decide) ?_
        refine z_irem C0 dX12_lies_84 (by decide) ?_
        obtain ⟨x14, e_x14, h⟩ := zl_of h
        refine z_nm e_x14 ?_
        refine z_istore (lo1 := [(5, .int x14), (4, .int x8), (3, .int x6), (0, .ref (zb g + a0)), (1, .int v1), (2, .int v2)]) C0 dX12_lies_85 (by decide) rfl ?_
        refine z_iload_n C0 dX12_lies_87 rfl 5 rfl ?_
        refine z_bipush (v := (10 : Int32)) C0 dX12_lies_88 (by decide) ?_
        refine z_bipush (v := (29 : Int32)) C0 dX12_lies_90 (by decide) ?_
        refine z_callS (As := [.int v2, .int (10 : Int32), .int (29 : Int32)]) (rest := []) C0 rfl kc_X12_isIn km_RX12_109 (r_X12_isIn (l := l) (g := g) (μ := μ4) v2 (10 : Int32) (29 : Int32) rfl) rfl (Nat.le_of_ble_eq_true rfl) (Nat.le_of_ble_eq_true rfl) (Nat.le_of_ble_eq_true rfl) (Nat.le_of_ble_eq_true rfl) (Nat.le_refl _) rfl rfl dX12_lies_92 ?_
        by_cases hc50 : (¬ ((f_X12_isIn v2 (10 : Int32) (29 : Int32)) = 0)) ∧ (x14 < (μ4 (a0 + 1) ((μ4 a0 35).toNatClampNeg)))
        · have h := zif_t hc50 h
          refine z_join μ4 115 [(5, .int x14), (4, .int x8), (3, .int x6), (0, .ref (zb g + a0)), (1, .int v1), (2, .int v2)] [] ?_ (fun k51 => ?_)
          · refine z_iconst (v := (0 : Int32)) C0 dX12_lies_115 (by decide) ?_
            refine z_istore (lo1 := [(6, .int (0 : Int32)), (5, .int x14), (4, .int x8), (3, .int x6), (0, .ref (zb g + a0)), (1, .int v1), (2, .int v2)]) C0 dX12_lies_116 (by decide) rfl ?_
            refine z_iconst (v := (0 : Int32)) C0 dX12_lies_118 (by decide) ?_
            refine z_istore (lo1 := [(7, .int (0 : Int32)), (6, .int (0 : Int32)), (5, .int x14), (4, .int x8), (3, .int x6), (0, .ref (zb g + a0)), (1, .int v1), (2, .int v2)]) C0 dX12_lies_119 (by decide) rfl ?_
            refine z_sub (lo1 := [(0, .ref (zb g + a0)), (2, .int v2), (3, .int x6), (5, .int x14), (6, .int (0 : Int32)), (7, .int (0 : Int32))]) [5, 7, 4, 2, 1, 0] rfl ?_
            obtain ⟨x32, e_x32, h⟩ := zbd_of h
            refine r_X12_lies_L121 C0 a0 v2 x6 x14 μ4 hT0 zFU (0 : Int32) (0 : Int32) x32 e_x32 ?_
            refine z_iload_n C0 dX12_lies_201 rfl 1 rfl ?_
            refine z_bipush (v := (20 : Int32)) C0 dX12_lies_202 (by decide) ?_
            obtain ⟨x42, e_x42, h⟩ := zbd_of h
            refine z_join μ4 231 [] [.int x42] ?_ (fun k_J38 => ?_)
            · have h := Option.some.inj h
              obtain ⟨rfl, rfl⟩ := Prod.mk.inj h
              exact z_iret C0 rfl dX12_lies_231
            · have h := e_x42
              refine z_icmp_lt C0 212 dX12_lies_204 (by decide) (fun c33 => ?_) (fun c33 => ?_)
              · have h := zif_t c33 h
                refine z_iload C0 dX12_lies_212 2 rfl ?_
                obtain ⟨r39, e_r39, h⟩ := zbd_of h
                refine z_callS (As := [.int x32]) (rest := []) C0 rfl kc_X12_bits km_RX12_393 (r_X12_bits (l := l) (g := g) (μ := μ4) x32 e_r39) rfl (Nat.le_of_ble_eq_true rfl) (Nat.le_of_ble_eq_true rfl) (Nat.le_of_ble_eq_true rfl) (Nat.le_of_ble_eq_true rfl) (Nat.le_refl _) rfl rfl dX12_lies_214 ?_
                refine z_iconst (v := (1 : Int32)) C0 dX12_lies_217 (by decide) ?_
                refine z_icmp_ne C0 230 dX12_lies_218 (by decide) (fun c40 => ?_) (fun c40 => ?_)
                · have h := zif_t c40 h
                  refine z_iconst (v := (-1 : Int32)) C0 dX12_lies_230 (by decide) ?_
                  refine z_sub (lo1 := []) [] rfl ?_
                  obtain rfl := (Option.some.inj h)
                  exact k_J38
                · have h := zif_f (fun q => q c40) h
                  refine z_aload_n C0 dX12_lies_221 rfl 0 rfl ?_
                  refine z_iload C0 dX12_lies_222 2 rfl ?_
                  obtain ⟨r41, e_r41, h⟩ := zbd_of h
                  refine z_callV (As := [.int x32]) (rest := []) C0 rfl kc_X12_lowest km_RX12_399 (r_X12_lowest (l := l) (g := g) (μ := μ4) a0 x32 hT0 e_r41) hT0.1 hT0.2.2.1 rfl (by decide) rfl (Nat.le_of_ble_eq_true rfl) (Nat.le_of_ble_eq_true rfl) (Nat.le_of_ble_eq_true rfl) (Nat.le_of_ble_eq_true rfl) (Nat.le_refl _) rfl rfl dX12_lies_224 ?_
                  refine z_goto C0 231 dX12_lies_227 (by decide) ?_
                  refine z_sub (lo1 := []) [] rfl ?_
                  obtain rfl := (Option.some.inj h)
                  exact k_J38
              · have h := zif_f c33 h
                refine z_iload C0 dX12_lies_207 2 rfl ?_
                refine z_goto C0 231 dX12_lies_209 (by decide) ?_
                refine z_sub (lo1 := []) [] rfl ?_
                obtain rfl := (Option.some.inj h)
                exact k_J38
          · refine z_if_eq C0 112 dX12_lies_95 (by decide) (fun c15 => ?_) (fun c15 => ?_)
            · exact absurd hc50 (fun q => q.1 c15)
            · refine z_iload C0 dX12_lies_98 0 rfl ?_
              refine z_aload_n C0 dX12_lies_100 rfl 3 rfl ?_
              refine z_getr C0 hT0 kf_12_7 zr_12_0 zx_12 (zs_12_0 hT0).1 dX12_lies_101 ?_
              refine z_aload_n C0 dX12_lies_104 rfl 3 rfl ?_
              refine z_geti C0 hT0.1 hT0.2.2.1 kf_12_396 zr_12_35 dX12_lies_105 ?_
              refine z_iald C0 (zs_12_0 hT0).2 g5 rfl dX12_lies_108 ?_
              refine z_icmp_lt C0 115 dX12_lies_109 (by decide) (fun c16 => ?_) (fun c16 => ?_)
              · exact k51
              · exact absurd hc50 (fun q => c16 q.2)
        · have h := zif_f hc50 h
          refine z_join μ4 112 [(5, .int x14), (4, .int x8), (3, .int x6), (0, .ref (zb g + a0)), (1, .int v1), (2, .int v2)] [] ?_ (fun k52 => ?_)
          · refine z_bipush (v := (-2 : Int32)) C0 dX12_lies_112 (by decide) ?_
            have h := Option.some.inj h
            obtain ⟨rfl, rfl⟩ := Prod.mk.inj h
            exact z_iret C0 rfl dX12_lies_114
          · refine z_if_eq C0 112 dX12_lies_95 (by decide) (fun c15 => ?_) (fun c15 => ?_)
            · exact k52
            · refine z_iload C0 dX12_lies_98 0 rfl ?_
              refine z_aload_n C0 dX12_lies_100 rfl 3 rfl ?_
              refine z_getr C0 hT0 kf_12_7 zr_12_0 zx_12 (zs_12_0 hT0).1 dX12_lies_101 ?_
              refine z_aload_n C0 dX12_lies_104 rfl 3 rfl ?_
              refine z_geti C0 hT0.1 hT0.2.2.1 kf_12_396 zr_12_35 dX12_lies_105 ?_
              refine z_iald C0 (zs_12_0 hT0).2 g5 rfl dX12_lies_108 ?_
              refine z_icmp_lt C0 115 dX12_lies_109 (by decide) (fun c16 => ?_) (fun c16 => ?_)
              · exact absurd ⟨c15, c16⟩ hc50
              · exact k52
      · have h := zif_f (fun q => q c12) h
        refine z_iload C0 dX12_lies_67 0 rfl ?_
        obtain ⟨x46, e_x46, h⟩ := zbd_of h
        refine z_join μ4 80 [] [.int x46] ?_ (fun k_J44 => ?_)
        · have h := Option.some.inj h
          obtain ⟨rfl, rfl⟩ := Prod.mk.inj h
          exact z_iret C0 rfl dX12_lies_80
        · have h := e_x46
          refine z_if_ne C0 76 dX12_lies_69 (by decide) (fun c43 => ?_) (fun c43 => ?_)
          · have h := zif_t c43 h
            refine z_aload_n C0 dX12_lies_76 rfl 2 rfl ?_
            obtain ⟨r45, e_r45, h⟩ := zbd_of h
            refine z_callV (As := []) (rest := []) C0 rfl kc_X12_dig km_RX12_408 (r_X12_dig (l := l) (g := g) a0 μ4 hT0 e_r45) hT0.1 hT0.2.2.1 rfl (by decide) rfl (Nat.le_of_ble_eq_true rfl) (Nat.le_of_ble_eq_true rfl) (Nat.le_of_ble_eq_true rfl) (Nat.le_of_ble_eq_true rfl) (Nat.le_refl _) rfl rfl dX12_lies_77 ?_
            refine z_sub (lo1 := []) [] rfl ?_
            obtain rfl := (Option.some.inj h)
            exact k_J44
          · have h := zif_f (fun q => q c43) h
            refine z_iconst (v := (-1 : Int32)) C0 dX12_lies_72 (by decide) ?_
            refine z_goto C0 80 dX12_lies_73 (by decide) ?_
            refine z_sub (lo1 := []) [] rfl ?_
            obtain rfl := (Option.some.inj h)
            exact k_J44
    · have h := zif_f (fun q => q c9) h
      refine z_iload C0 dX12_lies_59 0 rfl ?_
      have h := Option.some.inj h
      obtain ⟨rfl, rfl⟩ := Prod.mk.inj h
      exact z_iret C0 rfl dX12_lies_61
  · have h := zif_f (fun q => q c2) h
    refine z_bipush (v := (-2 : Int32)) C0 dX12_lies_9 (by decide) ?_
    have h := Option.some.inj h
    obtain ⟨rfl, rfl⟩ := Prod.mk.inj h
    exact z_iret C0 rfl dX12_lies_11
def f_X12_list (a0 : Nat) (v1 : Int32) (v2 : Int32) (v3 : Int32) (v4 : Int32) (μ : zM) : Option (Int32 × zM) :=
  zbd2 (f_X12_isState a0 v1 v2 v3 μ) fun r1 μ2 =>
  zbd (if (¬ (r1 = 0)) ∧ (¬ ((f_X12_isIn v4 (0 : Int32) (1 : Int32)) = 0)) then
      zbd (f_X12_listOf a0 v4 μ2) fun r6 =>
      some r6
    else
      some (-1000000 : Int32)) fun x7 =>
  some (x7, μ2)
set_option maxHeartbeats 4000000 in
set_option maxRecDepth 100000 in
theorem r_X12_list {l : Launch} {g : zL} (a0 : Nat) (v1 : Int32) (v2 : Int32) (v3 : Int32) (v4 : Int32) (μ : zM) (hT0 : zT zNN zσ1 a0 12) {rv : Int32} {μr : zM} (h : f_X12_list a0 v1 v2 v3 v4 μ = some (rv, μr)) : zMet l g yX12_list cX12_list 5 (some (.int)) 9 0 0 zNN zNN zσ1 zσ1 [.ref (zb g + a0), .int v1, .int v2, .int v3, .int v4] μ (some (.int rv)) μr := by
  refine zMet.of (by decide +kernel) (Nat.le_of_ble_eq_true rfl) ?_
  intro p e s m args below meth c C0
  refine z_loc (lo1 := [(0, .ref (zb g + a0)), (1, .int v1), (2, .int v2), (3, .int v3), (4, .int v4)]) rfl ?_
  unfold f_X12_list at h
  refine z_aload_n C0 dX12_list_0 rfl 0 rfl ?_
  refine z_iload_n C0 dX12_list_1 rfl 1 rfl ?_
  refine z_iload_n C0 dX12_list_2 rfl 2 rfl ?_
  refine z_iload_n C0 dX12_list_3 rfl 3 rfl ?_
  obtain ⟨r1, μ2, e_r1, h⟩ := zbd2_of h
  refine z_callV (As := [.int v1, .int v2, .int v3]) (rest := []) C0 rfl kc_X12_isState km_RX12_310 (r_X12_isState (l := l) (g := g) a0 v1 v2 v3 μ hT0 e_r1) hT0.1 hT0.2.2.1 rfl (by decide) rfl (Nat.le_of_ble_eq_true rfl) (Nat.le_of_ble_eq_true rfl) (Nat.le_of_ble_eq_true rfl) (Nat.le_of_ble_eq_true rfl) (Nat.le_refl _) rfl rfl dX12_list_4 ?_
  obtain ⟨x7, e_x7, h⟩ := zbd_of h
  refine z_join μ2 32 [] [.int x7] ?_ (fun k_J5 => ?_)
  · have h := Option.some.inj h
    obtain ⟨rfl, rfl⟩ := Prod.mk.inj h
    exact z_iret C0 rfl dX12_list_32
  · have h := e_x7
    by_cases hc8 : (¬ (r1 = 0)) ∧ (¬ ((f_X12_isIn v4 (0 : Int32) (1 : Int32)) = 0))
    · have h := zif_t hc8 h
      refine z_join μ2 20 [(0, .ref (zb g + a0)), (1, .int v1), (2, .int v2), (3, .int v3), (4, .int v4)] [] ?_ (fun k9 => ?_)
      · refine z_aload_n C0 dX12_list_20 rfl 0 rfl ?_
        refine z_iload C0 dX12_list_21 4 rfl ?_
        obtain ⟨r6, e_r6, h⟩ := zbd_of h
        refine z_callV (As := [.int v4]) (rest := []) C0 rfl kc_X12_listOf km_RX12_260 (r_X12_listOf (l := l) (g := g) a0 v4 μ2 hT0 e_r6) hT0.1 hT0.2.2.1 rfl (by decide) rfl (Nat.le_of_ble_eq_true rfl) (Nat.le_of_ble_eq_true rfl) (Nat.le_of_ble_eq_true rfl) (Nat.le_of_ble_eq_true rfl) (Nat.le_refl _) rfl rfl dX12_list_23 ?_
        refine z_goto C0 32 dX12_list_26 (by decide) ?_
        refine z_sub (lo1 := []) [] rfl ?_
        obtain rfl := (Option.some.inj h)
        exact k_J5
      · refine z_if_eq C0 29 dX12_list_7 (by decide) (fun c3 => ?_) (fun c3 => ?_)
        · exact absurd hc8 (fun q => q.1 c3)
        · refine z_iload C0 dX12_list_10 4 rfl ?_
          refine z_iconst (v := (0 : Int32)) C0 dX12_list_12 (by decide) ?_
          refine z_iconst (v := (1 : Int32)) C0 dX12_list_13 (by decide) ?_
          refine z_callS (As := [.int v4, .int (0 : Int32), .int (1 : Int32)]) (rest := []) C0 rfl kc_X12_isIn km_RX12_109 (r_X12_isIn (l := l) (g := g) (μ := μ2) v4 (0 : Int32) (1 : Int32) rfl) rfl (Nat.le_of_ble_eq_true rfl) (Nat.le_of_ble_eq_true rfl) (Nat.le_of_ble_eq_true rfl) (Nat.le_of_ble_eq_true rfl) (Nat.le_refl _) rfl rfl dX12_list_14 ?_
          refine z_if_eq C0 29 dX12_list_17 (by decide) (fun c4 => ?_) (fun c4 => ?_)
          · exact absurd hc8 (fun q => (fun q => q c4) q.2)
          · exact k9
    · have h := zif_f hc8 h
      refine z_join μ2 29 [(0, .ref (zb g + a0)), (1, .int v1), (2, .int v2), (3, .int v3), (4, .int v4)] [] ?_ (fun k10 => ?_)
      · refine z_ldcw C0 dX12_list_29 kk_RX12_313 ?_
        refine z_sub (lo1 := []) [] rfl ?_
        obtain rfl := (Option.some.inj h)
        exact k_J5
      · refine z_if_eq C0 29 dX12_list_7 (by decide) (fun c3 => ?_) (fun c3 => ?_)
        · exact k10
        · refine z_iload C0 dX12_list_10 4 rfl ?_
          refine z_iconst (v := (0 : Int32)) C0 dX12_list_12 (by decide) ?_
          refine z_iconst (v := (1 : Int32)) C0 dX12_list_13 (by decide) ?_
          refine z_callS (As := [.int v4, .int (0 : Int32), .int (1 : Int32)]) (rest := []) C0 rfl kc_X12_isIn km_RX12_109 (r_X12_isIn (l := l) (g := g) (μ := μ2) v4 (0 : Int32) (1 : Int32) rfl) rfl (Nat.le_of_ble_eq_true rfl) (Nat.le_of_ble_eq_true rfl) (Nat.le_of_ble_eq_true rfl) (Nat.le_of_ble_eq_true rfl) (Nat.le_refl _) rfl rfl dX12_list_14 ?_
          refine z_if_eq C0 29 dX12_list_17 (by decide) (fun c4 => ?_) (fun c4 => ?_)
          · exact k10
          · exact absurd ⟨c3, c4⟩ hc8
def f_X12_meet_L124 (a0 : Nat) (v3 : Int32) (r11 : Int32) (r12 : Int32) (r16 : Int32) (r18 : Int32) : Nat → Int32 → Int32 → Int32 → zM → Option ((Int32 × zM) ⊕ (zM))
  | 0, _, _, _, _ => none
  | n + 1, y28, y29, y30, μ31 =>
    if (40 : Int32) < y30 then
      some (.inr μ31)
    else
      zbd (f_X12_isNear a0 (μ31 a0 12) (μ31 a0 13) r11 r12 y28 y29 v3 μ31) fun r37 =>
      if r37 = 0 then
        zbd (f_X12_hour a0 (0 : Int32) μ31) fun μ39 =>
        zbd (f_X12_canLieOther a0 (y28 + r16) y29 r11 r12 μ39) fun r40 =>
        zl (if r40 = 0 then
            (0 : Int32)
          else
            r16) fun x43 =>
        zl (y28 + x43) fun x44 =>
        zbd (f_X12_canLieOther a0 x44 (y29 + r18) r11 r12 μ39) fun r45 =>
        zl (if r45 = 0 then
            (0 : Int32)
          else
            r18) fun x48 =>
        zl (y29 + x48) fun x49 =>
        zl (y30 + (1 : Int32)) fun x50 =>
        f_X12_meet_L124 a0 v3 r11 r12 r16 r18 n x44 x49 x50 μ39
      else
        some (.inl (y30, μ31))
def f_X12_meet (a0 : Nat) (v1 : Int32) (v2 : Int32) (v3 : Int32) (μ : zM) : Option (Int32 × zM) :=
  zbd2 (f_X12_isLake a0 v1 μ) fun r1 μ2 =>
  zbd (if r1 = 0 then
      some false
    else
      zbd (f_X12_isOf a0 (0 : Int32) v2 μ2) fun r5 =>
      if ¬ r5 = 0 then
        some true
      else
        some false) fun b7 =>
  if b7 = true then
    zl (μ2 a0 10) fun x8 =>
    zbd2 (f_X12_isLake a0 v2 μ2) fun r9 μ10 =>
    zbd (f_X12_of a0 (2 : Int32) μ10) fun r11 =>
    zbd (f_X12_of a0 (3 : Int32) μ10) fun r12 =>
    zbd (f_X12_of a0 (4 : Int32) μ10) fun r13 =>
    zbd (f_X12_of a0 (5 : Int32) μ10) fun r14 =>
    zbd (f_X12_gravesList a0 (0 : Int32) (-1 : Int32) μ10) fun r15 =>
    zbd (f_X12_lean a0 r15 μ10) fun r16 =>
    zbd (f_X12_gravesList a0 (1 : Int32) (-1 : Int32) μ10) fun r17 =>
    zbd (f_X12_lean a0 r17 μ10) fun r18 =>
    zl (zup μ10 a0 10 x8) fun μ19 =>
    zbd (f_X12_of a0 (0 : Int32) μ19) fun r20 =>
    zbd (if r20 < (r13 + r11) then
        some false
      else
        zbd (f_X12_of a0 (1 : Int32) μ19) fun r23 =>
        if (r14 + r12) ≤ r23 then
          some true
        else
          some false) fun b25 =>
    if b25 = true then
      zbd (f_X12_begins a0 μ19) fun μ26 =>
      zbd (f_X12_meet_L124 a0 v3 r11 r12 r16 r18 zFU r13 r14 (0 : Int32) μ26) fun q52 => zsum q52 (fun t => some t) fun μ51 =>
      some ((-1 : Int32), μ51)
    else
      some ((-1 : Int32), μ19)
  else
    some ((-1 : Int32), μ2)
set_option maxHeartbeats 4000000 in
set_option maxRecDepth 100000 in
theorem r_X12_meet_L124 {l : Launch} {g : zL} {p : Program} {e : Env} {s : State} {m : MethodId} {args : Array Value} {below : List Frame} {meth : Method} {c : Code} {rv : Int32} {μr : zM} (C0 : zC p s m args meth c g cX12_meet yX12_meet 12 (some (.int))) (a0 : Nat) (v3 : Int32) (r11 : Int32) (r12 : Int32) (r16 : Int32) (r18 : Int32) (hU27 : zT zNN zσ1 a0 12) : ∀ (n : Nat) (y28 : Int32) (y29 : Int32) (y30 : Int32) (μ31 : zM) (q : (Int32 × zM) ⊕ (zM)), f_X12_meet_L124 a0 v3 r11 r12 r16 r18 n y28 y29 y30 μ31 = some q → (∀ t, q = Sum.inl t → t = (rv, μr)) → (∀ o, q = Sum.inr o → Z p l e (zrm 6 0 0) s m args below meth c g (MQ below (zQ g zNN zσ1 (some (.int rv)) μr) args s 0 0 (zA g)) 12 zNN 0 0 zσ1 ((fun o => o) o) 227 ((fun o => []) o) []) → Z p l e (zrm 6 0 0) s m args below meth c g (MQ below (zQ g zNN zσ1 (some (.int rv)) μr) args s 0 0 (zA g)) 12 zNN 0 0 zσ1 μ31 124 [(0, .ref (zb g + a0)), (3, .int v3), (5, .int r11), (6, .int r12), (7, .int y28), (8, .int y29), (9, .int r16), (10, .int r18), (11, .int y30)] [] := by
  intro n
  induction n with
  | zero =>
    intro y28 y29 y30 μ31 q h kr kx
    rw [f_X12_meet_L124] at h
    cases h
  | succ n ih =>
    intro y28 y29 y30 μ31 q h kr kx
    rw [f_X12_meet_L124] at h
    refine z_iload C0 dX12_meet_124 8 rfl ?_
    refine z_bipush (v := (40 : Int32)) C0 dX12_meet_126 (by decide) ?_
    refine z_icmp_gt C0 227 dX12_meet_128 (by decide) (fun c32 => ?_) (fun c32 => ?_)
    · have h := zif_t c32 h
      refine z_sub (lo1 := []) [] rfl ?_
      exact kx μ31 (Option.some.inj h).symm
    · have h := zif_f c32 h
      refine z_aload_n C0 dX12_meet_131 rfl 0 rfl ?_
      refine z_aload_n C0 dX12_meet_132 rfl 0 rfl ?_
      refine z_geti C0 hU27.1 hU27.2.2.1 kf_12_218 zr_12_12 dX12_meet_133 ?_
      refine z_aload_n C0 dX12_meet_136 rfl 0 rfl ?_
      refine z_geti C0 hU27.1 hU27.2.2.1 kf_12_221 zr_12_13 dX12_meet_137 ?_
      refine z_iload C0 dX12_meet_140 2 rfl ?_
      refine z_iload C0 dX12_meet_142 3 rfl ?_
      refine z_iload C0 dX12_meet_144 4 rfl ?_
      refine z_iload C0 dX12_meet_146 5 rfl ?_
      refine z_iload_n C0 dX12_meet_148 rfl 1 rfl ?_
      obtain ⟨r37, e_r37, h⟩ := zbd_of h
      refine z_callV (As := [.int (μ31 a0 12), .int (μ31 a0 13), .int r11, .int r12, .int y28, .int y29, .int v3]) (rest := []) C0 rfl kc_X12_isNear km_RX12_414 (r_X12_isNear (l := l) (g := g) a0 (μ31 a0 12) (μ31 a0 13) r11 r12 y28 y29 v3 μ31 hU27 e_r37) hU27.1 hU27.2.2.1 rfl (by decide) rfl (Nat.le_of_ble_eq_true rfl) (Nat.le_of_ble_eq_true rfl) (Nat.le_of_ble_eq_true rfl) (Nat.le_of_ble_eq_true rfl) (Nat.le_refl _) rfl rfl dX12_meet_149 ?_
      refine z_if_eq C0 158 dX12_meet_152 (by decide) (fun c38 => ?_) (fun c38 => ?_)
      · have h := zif_t c38 h
        refine z_aload_n C0 dX12_meet_158 rfl 0 rfl ?_
        refine z_iconst (v := (0 : Int32)) C0 dX12_meet_159 (by decide) ?_
        obtain ⟨μ39, e_μ39, h⟩ := zbd_of h
        refine z_callV (As := [.int (0 : Int32)]) (rest := []) C0 rfl kc_X12_hour km_RX12_291 (r_X12_hour (l := l) (g := g) a0 (0 : Int32) μ31 hU27 e_μ39) hU27.1 hU27.2.2.1 rfl (by decide) rfl (Nat.le_of_ble_eq_true rfl) (Nat.le_of_ble_eq_true rfl) (Nat.le_of_ble_eq_true rfl) (Nat.le_of_ble_eq_true rfl) (Nat.le_refl _) rfl rfl dX12_meet_160 ?_
        refine z_iload C0 dX12_meet_163 4 rfl ?_
        refine z_aload_n C0 dX12_meet_165 rfl 0 rfl ?_
        refine z_iload C0 dX12_meet_166 4 rfl ?_
        refine z_iload C0 dX12_meet_168 6 rfl ?_
        refine z_iadd C0 dX12_meet_170 ?_
        refine z_iload C0 dX12_meet_171 5 rfl ?_
        refine z_iload C0 dX12_meet_173 2 rfl ?_
        refine z_iload C0 dX12_meet_175 3 rfl ?_
        obtain ⟨r40, e_r40, h⟩ := zbd_of h
        refine z_callV (As := [.int (y28 + r16), .int y29, .int r11, .int r12]) (rest := [.int y28]) C0 rfl kc_X12_canLieOther km_RX12_418 (r_X12_canLieOther (l := l) (g := g) a0 (y28 + r16) y29 r11 r12 μ39 hU27 e_r40) hU27.1 hU27.2.2.1 rfl (by decide) rfl (Nat.le_of_ble_eq_true rfl) (Nat.le_of_ble_eq_true rfl) (Nat.le_of_ble_eq_true rfl) (Nat.le_of_ble_eq_true rfl) (Nat.le_refl _) rfl rfl dX12_meet_177 ?_
        obtain ⟨x43, e_x43, h⟩ := zl_of h
        refine z_join μ39 189 [(0, .ref (zb g + a0)), (3, .int v3), (5, .int r11), (6, .int r12), (8, .int y29), (9, .int r16), (10, .int r18), (11, .int y30)] [.int x43, .int y28] ?_ (fun k_J42 => ?_)
        · refine z_iadd C0 dX12_meet_189 ?_
          obtain ⟨x44, e_x44, h⟩ := zl_of h
          refine z_nm e_x44 ?_
          refine z_istore (lo1 := [(7, .int x44), (0, .ref (zb g + a0)), (3, .int v3), (5, .int r11), (6, .int r12), (8, .int y29), (9, .int r16), (10, .int r18), (11, .int y30)]) C0 dX12_meet_190 (by decide) rfl ?_
          refine z_iload C0 dX12_meet_192 5 rfl ?_
          refine z_aload_n C0 dX12_meet_194 rfl 1 rfl ?_
          refine z_iload C0 dX12_meet_195 0 rfl ?_
          refine z_iload C0 dX12_meet_197 5 rfl ?_
          refine z_iload C0 dX12_meet_199 7 rfl ?_
          refine z_iadd C0 dX12_meet_201 ?_
          refine z_iload C0 dX12_meet_202 3 rfl ?_
          refine z_iload C0 dX12_meet_204 4 rfl ?_
          obtain ⟨r45, e_r45, h⟩ := zbd_of h
          refine z_callV (As := [.int x44, .int (y29 + r18), .int r11, .int r12]) (rest := [.int y29]) C0 rfl kc_X12_canLieOther km_RX12_418 (r_X12_canLieOther (l := l) (g := g) a0 x44 (y29 + r18) r11 r12 μ39 hU27 e_r45) hU27.1 hU27.2.2.1 rfl (by decide) rfl (Nat.le_of_ble_eq_true rfl) (Nat.le_of_ble_eq_true rfl) (Nat.le_of_ble_eq_true rfl) (Nat.le_of_ble_eq_true rfl) (Nat.le_refl _) rfl rfl dX12_meet_206 ?_
          obtain ⟨x48, e_x48, h⟩ := zl_of h
          refine z_join μ39 218 [(0, .ref (zb g + a0)), (3, .int v3), (5, .int r11), (6, .int r12), (7, .int x44), (9, .int r16), (10, .int r18), (11, .int y30)] [.int x48, .int y29] ?_ (fun k_J47 => ?_)
          · refine z_iadd C0 dX12_meet_218 ?_
            obtain ⟨x49, e_x49, h⟩ := zl_of h
            refine z_nm e_x49 ?_
            refine z_istore (lo1 := [(8, .int x49), (0, .ref (zb g + a0)), (3, .int v3), (5, .int r11), (6, .int r12), (7, .int x44), (9, .int r16), (10, .int r18), (11, .int y30)]) C0 dX12_meet_219 (by decide) rfl ?_
            obtain ⟨x50, e_x50, h⟩ := zl_of h
            refine z_iinc (lo1 := [(11, .int x50), (8, .int x49), (0, .ref (zb g + a0)), (3, .int v3), (5, .int r11), (6, .int r12), (7, .int x44), (9, .int r16), (10, .int r18)]) C0 dX12_meet_221 8 rfl (by decide) e_x50.symm (by decide) rfl ?_
            refine z_goto C0 124 dX12_meet_224 (by decide) ?_
            refine z_sub (lo1 := [(0, .ref (zb g + a0)), (3, .int v3), (5, .int r11), (6, .int r12), (7, .int x44), (8, .int x49), (9, .int r16), (10, .int r18), (11, .int x50)]) [2, 3, 4, 5, 6, 1, 7, 8, 0] rfl ?_
            exact ih _ _ _ _ _ h kr kx
          · have h := e_x48.symm
            refine z_if_eq C0 217 dX12_meet_209 (by decide) (fun c46 => ?_) (fun c46 => ?_)
            · have h := zif_t c46 h
              refine z_iconst (v := (0 : Int32)) C0 dX12_meet_217 (by decide) ?_
              refine z_sub (lo1 := [(0, .ref (zb g + a0)), (3, .int v3), (5, .int r11), (6, .int r12), (7, .int x44), (9, .int r16), (10, .int r18), (11, .int y30)]) [1, 2, 3, 4, 0, 6, 7, 8] rfl ?_
              obtain rfl := h
              exact k_J47
            · have h := zif_f c46 h
              refine z_iload C0 dX12_meet_212 7 rfl ?_
              refine z_goto C0 218 dX12_meet_214 (by decide) ?_
              refine z_sub (lo1 := [(0, .ref (zb g + a0)), (3, .int v3), (5, .int r11), (6, .int r12), (7, .int x44), (9, .int r16), (10, .int r18), (11, .int y30)]) [1, 2, 3, 4, 0, 6, 7, 8] rfl ?_
              obtain rfl := h
              exact k_J47
        · have h := e_x43.symm
          refine z_if_eq C0 188 dX12_meet_180 (by decide) (fun c41 => ?_) (fun c41 => ?_)
          · have h := zif_t c41 h
            refine z_iconst (v := (0 : Int32)) C0 dX12_meet_188 (by decide) ?_
            refine z_sub (lo1 := [(0, .ref (zb g + a0)), (3, .int v3), (5, .int r11), (6, .int r12), (8, .int y29), (9, .int r16), (10, .int r18), (11, .int y30)]) [0, 1, 2, 3, 5, 6, 7, 8] rfl ?_
            obtain rfl := h
            exact k_J42
          · have h := zif_f c41 h
            refine z_iload C0 dX12_meet_183 6 rfl ?_
            refine z_goto C0 189 dX12_meet_185 (by decide) ?_
            refine z_sub (lo1 := [(0, .ref (zb g + a0)), (3, .int v3), (5, .int r11), (6, .int r12), (8, .int y29), (9, .int r16), (10, .int r18), (11, .int y30)]) [0, 1, 2, 3, 5, 6, 7, 8] rfl ?_
            obtain rfl := h
            exact k_J42
      · have h := zif_f c38 h
        refine z_iload C0 dX12_meet_155 8 rfl ?_
        have h := kr _ (Option.some.inj h).symm
        obtain ⟨rfl, rfl⟩ := Prod.mk.inj h
        exact z_iret C0 rfl dX12_meet_157
set_option maxHeartbeats 4000000 in
set_option maxRecDepth 100000 in
theorem r_X12_meet {l : Launch} {g : zL} (a0 : Nat) (v1 : Int32) (v2 : Int32) (v3 : Int32) (μ : zM) (hT0 : zT zNN zσ1 a0 12) {rv : Int32} {μr : zM} (h : f_X12_meet a0 v1 v2 v3 μ = some (rv, μr)) : zMet l g yX12_meet cX12_meet 12 (some (.int)) 6 0 0 zNN zNN zσ1 zσ1 [.ref (zb g + a0), .int v1, .int v2, .int v3] μ (some (.int rv)) μr := by
  refine zMet.of (by decide +kernel) (Nat.le_of_ble_eq_true rfl) ?_
  intro p e s m args below meth c C0
  refine z_loc (lo1 := [(0, .ref (zb g + a0)), (1, .int v1), (2, .int v2), (3, .int v3)]) rfl ?_
  unfold f_X12_meet at h
  refine z_aload_n C0 dX12_meet_0 rfl 0 rfl ?_
  refine z_iload_n C0 dX12_meet_1 rfl 1 rfl ?_
  obtain ⟨r1, μ2, e_r1, h⟩ := zbd2_of h
  refine z_callV (As := [.int v1]) (rest := []) C0 rfl kc_X12_isLake km_RX12_186 (r_X12_isLake (l := l) (g := g) a0 v1 μ hT0 e_r1) hT0.1 hT0.2.2.1 rfl (by decide) rfl (Nat.le_of_ble_eq_true rfl) (Nat.le_of_ble_eq_true rfl) (Nat.le_of_ble_eq_true rfl) (Nat.le_of_ble_eq_true rfl) (Nat.le_refl _) rfl rfl dX12_meet_2 ?_
  obtain ⟨b7, e_b7, h⟩ := zbd_of h
  refine z_joinb b7 μ2 19 17 [(0, .ref (zb g + a0)), (1, .int v1), (2, .int v2), (3, .int v3)] [] (fun z55 => ?_) (fun z55 => ?_) (fun k53 k54 => ?_)
  · have h := zif_t z55 h
    refine z_aload_n C0 dX12_meet_19 rfl 0 rfl ?_
    refine z_geti C0 hT0.1 hT0.2.2.1 kf_12_177 zr_12_10 dX12_meet_20 ?_
    obtain ⟨x8, e_x8, h⟩ := zl_of h
    refine z_nm e_x8 ?_
    refine z_istore (lo1 := [(4, .int x8), (0, .ref (zb g + a0)), (1, .int v1), (2, .int v2), (3, .int v3)]) C0 dX12_meet_23 (by decide) rfl ?_
    refine z_aload_n C0 dX12_meet_25 rfl 1 rfl ?_
    refine z_iload_n C0 dX12_meet_26 rfl 3 rfl ?_
    obtain ⟨r9, μ10, e_r9, h⟩ := zbd2_of h
    refine z_callV (As := [.int v2]) (rest := []) C0 rfl kc_X12_isLake km_RX12_186 (r_X12_isLake (l := l) (g := g) a0 v2 μ2 hT0 e_r9) hT0.1 hT0.2.2.1 rfl (by decide) rfl (Nat.le_of_ble_eq_true rfl) (Nat.le_of_ble_eq_true rfl) (Nat.le_of_ble_eq_true rfl) (Nat.le_of_ble_eq_true rfl) (Nat.le_refl _) rfl rfl dX12_meet_27 ?_
    refine z_pop C0 dX12_meet_30 rfl ?_
    refine z_aload_n C0 dX12_meet_31 rfl 1 rfl ?_
    refine z_iconst (v := (2 : Int32)) C0 dX12_meet_32 (by decide) ?_
    obtain ⟨r11, e_r11, h⟩ := zbd_of h
    refine z_callV (As := [.int (2 : Int32)]) (rest := []) C0 rfl kc_X12_of km_RX12_180 (r_X12_of (l := l) (g := g) a0 (2 : Int32) μ10 hT0 e_r11) hT0.1 hT0.2.2.1 rfl (by decide) rfl (Nat.le_of_ble_eq_true rfl) (Nat.le_of_ble_eq_true rfl) (Nat.le_of_ble_eq_true rfl) (Nat.le_of_ble_eq_true rfl) (Nat.le_refl _) rfl rfl dX12_meet_33 ?_
    refine z_istore (lo1 := [(5, .int r11), (4, .int x8), (0, .ref (zb g + a0)), (1, .int v1), (2, .int v2), (3, .int v3)]) C0 dX12_meet_36 (by decide) rfl ?_
    refine z_aload_n C0 dX12_meet_38 rfl 2 rfl ?_
    refine z_iconst (v := (3 : Int32)) C0 dX12_meet_39 (by decide) ?_
    obtain ⟨r12, e_r12, h⟩ := zbd_of h
    refine z_callV (As := [.int (3 : Int32)]) (rest := []) C0 rfl kc_X12_of km_RX12_180 (r_X12_of (l := l) (g := g) a0 (3 : Int32) μ10 hT0 e_r12) hT0.1 hT0.2.2.1 rfl (by decide) rfl (Nat.le_of_ble_eq_true rfl) (Nat.le_of_ble_eq_true rfl) (Nat.le_of_ble_eq_true rfl) (Nat.le_of_ble_eq_true rfl) (Nat.le_refl _) rfl rfl dX12_meet_40 ?_
    refine z_istore (lo1 := [(6, .int r12), (5, .int r11), (4, .int x8), (0, .ref (zb g + a0)), (1, .int v1), (2, .int v2), (3, .int v3)]) C0 dX12_meet_43 (by decide) rfl ?_
    refine z_aload_n C0 dX12_meet_45 rfl 3 rfl ?_
    refine z_iconst (v := (4 : Int32)) C0 dX12_meet_46 (by decide) ?_
    obtain ⟨r13, e_r13, h⟩ := zbd_of h
    refine z_callV (As := [.int (4 : Int32)]) (rest := []) C0 rfl kc_X12_of km_RX12_180 (r_X12_of (l := l) (g := g) a0 (4 : Int32) μ10 hT0 e_r13) hT0.1 hT0.2.2.1 rfl (by decide) rfl (Nat.le_of_ble_eq_true rfl) (Nat.le_of_ble_eq_true rfl) (Nat.le_of_ble_eq_true rfl) (Nat.le_of_ble_eq_true rfl) (Nat.le_refl _) rfl rfl dX12_meet_47 ?_
    refine z_istore (lo1 := [(7, .int r13), (6, .int r12), (5, .int r11), (4, .int x8), (0, .ref (zb g + a0)), (1, .int v1), (2, .int v2), (3, .int v3)]) C0 dX12_meet_50 (by decide) rfl ?_
    refine z_aload_n C0 dX12_meet_52 rfl 4 rfl ?_
    refine z_iconst (v := (5 : Int32)) C0 dX12_meet_53 (by decide) ?_
    obtain ⟨r14, e_r14, h⟩ := zbd_of h
    refine z_callV (As := [.int (5 : Int32)]) (rest := []) C0 rfl kc_X12_of km_RX12_180 (r_X12_of (l := l) (g := g) a0 (5 : Int32) μ10 hT0 e_r14) hT0.1 hT0.2.2.1 rfl (by decide) rfl (Nat.le_of_ble_eq_true rfl) (Nat.le_of_ble_eq_true rfl) (Nat.le_of_ble_eq_true rfl) (Nat.le_of_ble_eq_true rfl) (Nat.le_refl _) rfl rfl dX12_meet_54 ?_
    refine z_istore (lo1 := [(8, .int r14), (7, .int r13), (6, .int r12), (5, .int r11), (4, .int x8), (0, .ref (zb g + a0)), (1, .int v1), (2, .int v2), (3, .int v3)]) C0 dX12_meet_57 (by decide) rfl ?_
    refine z_aload_n C0 dX12_meet_59 rfl 5 rfl ?_
    refine z_aload_n C0 dX12_meet_60 rfl 5 rfl ?_
    refine z_iconst (v := (0 : Int32)) C0 dX12_meet_61 (by decide) ?_
    refine z_iconst (v := (-1 : Int32)) C0 dX12_meet_62 (by decide) ?_
    obtain ⟨r15, e_r15, h⟩ := zbd_of h
    refine z_callV (As := [.int (0 : Int32), .int (-1 : Int32)]) (rest := [.ref (zb g + a0)]) C0 rfl kc_X12_gravesList km_RX12_254 (r_X12_gravesList (l := l) (g := g) a0 (0 : Int32) (-1 : Int32) μ10 hT0 e_r15) hT0.1 hT0.2.2.1 rfl (by decide) rfl (Nat.le_of_ble_eq_true rfl) (Nat.le_of_ble_eq_true rfl) (Nat.le_of_ble_eq_true rfl) (Nat.le_of_ble_eq_true rfl) (Nat.le_refl _) rfl rfl dX12_meet_63 ?_
    obtain ⟨r16, e_r16, h⟩ := zbd_of h
    refine z_callV (As := [.int r15]) (rest := []) C0 rfl kc_X12_lean km_RX12_263 (r_X12_lean (l := l) (g := g) a0 r15 μ10 hT0 e_r16) hT0.1 hT0.2.2.1 rfl (by decide) rfl (Nat.le_of_ble_eq_true rfl) (Nat.le_of_ble_eq_true rfl) (Nat.le_of_ble_eq_true rfl) (Nat.le_of_ble_eq_true rfl) (Nat.le_refl _) rfl rfl dX12_meet_66 ?_
    refine z_istore (lo1 := [(9, .int r16), (8, .int r14), (7, .int r13), (6, .int r12), (5, .int r11), (4, .int x8), (0, .ref (zb g + a0)), (1, .int v1), (2, .int v2), (3, .int v3)]) C0 dX12_meet_69 (by decide) rfl ?_
    refine z_aload_n C0 dX12_meet_71 rfl 6 rfl ?_
    refine z_aload_n C0 dX12_meet_72 rfl 6 rfl ?_
    refine z_iconst (v := (1 : Int32)) C0 dX12_meet_73 (by decide) ?_
    refine z_iconst (v := (-1 : Int32)) C0 dX12_meet_74 (by decide) ?_
    obtain ⟨r17, e_r17, h⟩ := zbd_of h
    refine z_callV (As := [.int (1 : Int32), .int (-1 : Int32)]) (rest := [.ref (zb g + a0)]) C0 rfl kc_X12_gravesList km_RX12_254 (r_X12_gravesList (l := l) (g := g) a0 (1 : Int32) (-1 : Int32) μ10 hT0 e_r17) hT0.1 hT0.2.2.1 rfl (by decide) rfl (Nat.le_of_ble_eq_true rfl) (Nat.le_of_ble_eq_true rfl) (Nat.le_of_ble_eq_true rfl) (Nat.le_of_ble_eq_true rfl) (Nat.le_refl _) rfl rfl dX12_meet_75 ?_
    obtain ⟨r18, e_r18, h⟩ := zbd_of h
    refine z_callV (As := [.int r17]) (rest := []) C0 rfl kc_X12_lean km_RX12_263 (r_X12_lean (l := l) (g := g) a0 r17 μ10 hT0 e_r18) hT0.1 hT0.2.2.1 rfl (by decide) rfl (Nat.le_of_ble_eq_true rfl) (Nat.le_of_ble_eq_true rfl) (Nat.le_of_ble_eq_true rfl) (Nat.le_of_ble_eq_true rfl) (Nat.le_refl _) rfl rfl dX12_meet_78 ?_
    refine z_istore (lo1 := [(10, .int r18), (9, .int r16), (8, .int r14), (7, .int r13), (6, .int r12), (5, .int r11), (4, .int x8), (0, .ref (zb g + a0)), (1, .int v1), (2, .int v2), (3, .int v3)]) C0 dX12_meet_81 (by decide) rfl ?_
    refine z_aload_n C0 dX12_meet_83 rfl 7 rfl ?_
    refine z_iload C0 dX12_meet_84 6 rfl ?_
    obtain ⟨μ19, e_μ19, h⟩ := zl_of h
    refine z_puti C0 hT0.1 hT0.2.2.1 kf_12_177 zp_12_10 zr_12_10 e_μ19 dX12_meet_86 ?_
    refine z_iload C0 dX12_meet_89 3 rfl ?_
    refine z_iload C0 dX12_meet_91 5 rfl ?_
    refine z_iadd C0 dX12_meet_93 ?_
    refine z_aload_n C0 dX12_meet_94 rfl 7 rfl ?_
    refine z_iconst (v := (0 : Int32)) C0 dX12_meet_95 (by decide) ?_
    obtain ⟨r20, e_r20, h⟩ := zbd_of h
    refine z_callV (As := [.int (0 : Int32)]) (rest := [.int (r13 + r11)]) C0 rfl kc_X12_of km_RX12_180 (r_X12_of (l := l) (g := g) a0 (0 : Int32) μ19 hT0 e_r20) hT0.1 hT0.2.2.1 rfl (by decide) rfl (Nat.le_of_ble_eq_true rfl) (Nat.le_of_ble_eq_true rfl) (Nat.le_of_ble_eq_true rfl) (Nat.le_of_ble_eq_true rfl) (Nat.le_refl _) rfl rfl dX12_meet_96 ?_
    obtain ⟨b25, e_b25, h⟩ := zbd_of h
    refine z_joinb b25 μ19 117 115 [(10, .int r18), (9, .int r16), (8, .int r14), (7, .int r13), (6, .int r12), (5, .int r11), (4, .int x8), (0, .ref (zb g + a0)), (1, .int v1), (2, .int v2), (3, .int v3)] [] (fun z58 => ?_) (fun z58 => ?_) (fun k56 k57 => ?_)
    · have h := zif_t z58 h
      refine z_aload_n C0 dX12_meet_117 rfl 7 rfl ?_
      obtain ⟨μ26, e_μ26, h⟩ := zbd_of h
      refine z_callV (As := []) (rest := []) C0 rfl kc_X12_begins km_RX12_295 (r_X12_begins (l := l) (g := g) a0 μ19 hT0 e_μ26) hT0.1 hT0.2.2.1 rfl (by decide) rfl (Nat.le_of_ble_eq_true rfl) (Nat.le_of_ble_eq_true rfl) (Nat.le_of_ble_eq_true rfl) (Nat.le_of_ble_eq_true rfl) (Nat.le_refl _) rfl rfl dX12_meet_118 ?_
      refine z_iconst (v := (0 : Int32)) C0 dX12_meet_121 (by decide) ?_
      refine z_istore (lo1 := [(11, .int (0 : Int32)), (10, .int r18), (9, .int r16), (8, .int r14), (7, .int r13), (6, .int r12), (5, .int r11), (4, .int x8), (0, .ref (zb g + a0)), (1, .int v1), (2, .int v2), (3, .int v3)]) C0 dX12_meet_122 (by decide) rfl ?_
      refine z_sub (lo1 := [(0, .ref (zb g + a0)), (3, .int v3), (5, .int r11), (6, .int r12), (7, .int r13), (8, .int r14), (9, .int r16), (10, .int r18), (11, .int (0 : Int32))]) [8, 11, 6, 5, 4, 3, 2, 1, 0] rfl ?_
      obtain ⟨q52, e_q52, h⟩ := zbd_of h
      refine r_X12_meet_L124 C0 a0 v3 r11 r12 r16 r18 hT0 zFU r13 r14 (0 : Int32) μ26 q52 e_q52 ?_ ?_
      · intro t ht
        have h := zsum_l h _ ht
        exact Option.some.inj h
      · intro μ51 hq
        have h := zsum_r h _ hq
        refine z_iconst (v := (-1 : Int32)) C0 dX12_meet_227 (by decide) ?_
        have h := Option.some.inj h
        obtain ⟨rfl, rfl⟩ := Prod.mk.inj h
        exact z_iret C0 rfl dX12_meet_228
    · have h := zif_f (fun q => Bool.noConfusion (z58.symm.trans q)) h
      refine z_iconst (v := (-1 : Int32)) C0 dX12_meet_115 (by decide) ?_
      have h := Option.some.inj h
      obtain ⟨rfl, rfl⟩ := Prod.mk.inj h
      exact z_iret C0 rfl dX12_meet_116
    · have h := e_b25
      refine z_icmp_gt C0 115 dX12_meet_99 (by decide) (fun c21 => ?_) (fun c21 => ?_)
      · have h := zif_t c21 h
        exact k57 (Option.some.inj h).symm
      · have h := zif_f c21 h
        refine z_iload C0 dX12_meet_102 2 rfl ?_
        refine z_iload C0 dX12_meet_104 4 rfl ?_
        refine z_iadd C0 dX12_meet_106 ?_
        refine z_aload_n C0 dX12_meet_107 rfl 7 rfl ?_
        refine z_iconst (v := (1 : Int32)) C0 dX12_meet_108 (by decide) ?_
        obtain ⟨r23, e_r23, h⟩ := zbd_of h
        refine z_callV (As := [.int (1 : Int32)]) (rest := [.int (r14 + r12)]) C0 rfl kc_X12_of km_RX12_180 (r_X12_of (l := l) (g := g) a0 (1 : Int32) μ19 hT0 e_r23) hT0.1 hT0.2.2.1 rfl (by decide) rfl (Nat.le_of_ble_eq_true rfl) (Nat.le_of_ble_eq_true rfl) (Nat.le_of_ble_eq_true rfl) (Nat.le_of_ble_eq_true rfl) (Nat.le_refl _) rfl rfl dX12_meet_109 ?_
        refine z_icmp_le C0 117 dX12_meet_112 (by decide) (fun c24 => ?_) (fun c24 => ?_)
        · have h := zif_t c24 h
          exact k56 (Option.some.inj h).symm
        · have h := zif_f c24 h
          exact k57 (Option.some.inj h).symm
  · have h := zif_f (fun q => Bool.noConfusion (z55.symm.trans q)) h
    refine z_iconst (v := (-1 : Int32)) C0 dX12_meet_17 (by decide) ?_
    have h := Option.some.inj h
    obtain ⟨rfl, rfl⟩ := Prod.mk.inj h
    exact z_iret C0 rfl dX12_meet_18
  · have h := e_b7
    refine z_if_eq C0 17 dX12_meet_5 (by decide) (fun c3 => ?_) (fun c3 => ?_)
    · have h := zif_t c3 h
      exact k54 (Option.some.inj h).symm
    · have h := zif_f c3 h
      refine z_aload_n C0 dX12_meet_8 rfl 0 rfl ?_
      refine z_iconst (v := (0 : Int32)) C0 dX12_meet_9 (by decide) ?_
      refine z_iload_n C0 dX12_meet_10 rfl 2 rfl ?_
      obtain ⟨r5, e_r5, h⟩ := zbd_of h
      refine z_callV (As := [.int (0 : Int32), .int v2]) (rest := []) C0 rfl kc_X12_isOf km_RX12_144 (r_X12_isOf (l := l) (g := g) a0 (0 : Int32) v2 μ2 hT0 e_r5) hT0.1 hT0.2.2.1 rfl (by decide) rfl (Nat.le_of_ble_eq_true rfl) (Nat.le_of_ble_eq_true rfl) (Nat.le_of_ble_eq_true rfl) (Nat.le_of_ble_eq_true rfl) (Nat.le_refl _) rfl rfl dX12_meet_11 ?_
      refine z_if_ne C0 19 dX12_meet_14 (by decide) (fun c6 => ?_) (fun c6 => ?_)
      · have h := zif_t c6 h
        exact k53 (Option.some.inj h).symm
      · have h := zif_f (fun q => q c6) h
        exact k54 (Option.some.inj h).symm
def f_X12_metAt (a0 : Nat) (v1 : Int32) (μ : zM) : Option (Int32) :=
  zbd (f_X12_sidesAt a0 (v1 % (12 : Int32)) (v1 / (12 : Int32)) μ) fun r1 =>
  zbd (f_X12_of a0 (9 : Int32) μ) fun r2 =>
  zbd (f_X12_of a0 (10 : Int32) μ) fun r3 =>
  some (((r1 >>> (r2 &&& 31)) &&& (1 : Int32)) + ((2 : Int32) * ((r1 >>> (r3 &&& 31)) &&& (1 : Int32))))
set_option maxHeartbeats 4000000 in
set_option maxRecDepth 100000 in
theorem r_X12_metAt {l : Launch} {g : zL} (a0 : Nat) (v1 : Int32) (μ : zM) (hT0 : zT zNN zσ1 a0 12) {rv : Int32} (h : f_X12_metAt a0 v1 μ = some rv) : zMet l g yX12_metAt cX12_metAt 3 (some (.int)) 2 0 0 zNN zNN zσ1 zσ1 [.ref (zb g + a0), .int v1] μ (some (.int rv)) μ := by
  refine zMet.of (by decide +kernel) (Nat.le_of_ble_eq_true rfl) ?_
  intro p e s m args below meth c C0
  refine z_loc (lo1 := [(0, .ref (zb g + a0)), (1, .int v1)]) rfl ?_
  unfold f_X12_metAt at h
  refine z_aload_n C0 dX12_metAt_0 rfl 0 rfl ?_
  refine z_iload_n C0 dX12_metAt_1 rfl 1 rfl ?_
  refine z_bipush (v := (12 : Int32)) C0 dX12_metAt_2 (by decide) ?_
  refine z_irem C0 dX12_metAt_4 (by decide) ?_
  refine z_iload_n C0 dX12_metAt_5 rfl 1 rfl ?_
  refine z_bipush (v := (12 : Int32)) C0 dX12_metAt_6 (by decide) ?_
  refine z_idiv C0 dX12_metAt_8 (by decide) ?_
  obtain ⟨r1, e_r1, h⟩ := zbd_of h
  refine z_callV (As := [.int (v1 % (12 : Int32)), .int (v1 / (12 : Int32))]) (rest := []) C0 rfl kc_X12_sidesAt km_RX12_230 (r_X12_sidesAt (l := l) (g := g) a0 (v1 % (12 : Int32)) (v1 / (12 : Int32)) μ hT0 e_r1) hT0.1 hT0.2.2.1 rfl (by decide) rfl (Nat.le_of_ble_eq_true rfl) (Nat.le_of_ble_eq_true rfl) (Nat.le_of_ble_eq_true rfl) (Nat.le_of_ble_eq_true rfl) (Nat.le_refl _) rfl rfl dX12_metAt_9 ?_
  refine z_istore_n (lo1 := [(2, .int r1), (0, .ref (zb g + a0)), (1, .int v1)]) C0 dX12_metAt_12 rfl (by decide) rfl ?_
  refine z_iload_n C0 dX12_metAt_13 rfl 0 rfl ?_
  refine z_aload_n C0 dX12_metAt_14 rfl 1 rfl ?_
  refine z_bipush (v := (9 : Int32)) C0 dX12_metAt_15 (by decide) ?_
  obtain ⟨r2, e_r2, h⟩ := zbd_of h
  refine z_callV (As := [.int (9 : Int32)]) (rest := [.int r1]) C0 rfl kc_X12_of km_RX12_180 (r_X12_of (l := l) (g := g) a0 (9 : Int32) μ hT0 e_r2) hT0.1 hT0.2.2.1 rfl (by decide) rfl (Nat.le_of_ble_eq_true rfl) (Nat.le_of_ble_eq_true rfl) (Nat.le_of_ble_eq_true rfl) (Nat.le_of_ble_eq_true rfl) (Nat.le_refl _) rfl rfl dX12_metAt_17 ?_
  refine z_ishr C0 dX12_metAt_20 ?_
  refine z_iconst (v := (1 : Int32)) C0 dX12_metAt_21 (by decide) ?_
  refine z_iand C0 dX12_metAt_22 ?_
  refine z_iconst (v := (2 : Int32)) C0 dX12_metAt_23 (by decide) ?_
  refine z_iload_n C0 dX12_metAt_24 rfl 0 rfl ?_
  refine z_aload_n C0 dX12_metAt_25 rfl 1 rfl ?_
  refine z_bipush (v := (10 : Int32)) C0 dX12_metAt_26 (by decide) ?_
  obtain ⟨r3, e_r3, h⟩ := zbd_of h
  refine z_callV (As := [.int (10 : Int32)]) (rest := [.int r1, .int (2 : Int32), .int ((r1 >>> (r2 &&& 31)) &&& (1 : Int32))]) C0 rfl kc_X12_of km_RX12_180 (r_X12_of (l := l) (g := g) a0 (10 : Int32) μ hT0 e_r3) hT0.1 hT0.2.2.1 rfl (by decide) rfl (Nat.le_of_ble_eq_true rfl) (Nat.le_of_ble_eq_true rfl) (Nat.le_of_ble_eq_true rfl) (Nat.le_of_ble_eq_true rfl) (Nat.le_refl _) rfl rfl dX12_metAt_28 ?_
  refine z_ishr C0 dX12_metAt_31 ?_
  refine z_iconst (v := (1 : Int32)) C0 dX12_metAt_32 (by decide) ?_
  refine z_iand C0 dX12_metAt_33 ?_
  refine z_imul C0 dX12_metAt_34 ?_
  refine z_iadd C0 dX12_metAt_35 ?_
  have h := Option.some.inj h
  obtain rfl := h
  exact z_iret C0 rfl dX12_metAt_36
def f_X12_nightLine (a0 : Nat) (μ : zM) : Option (zM) :=
  zl (μ a0 4) fun x1 =>
  zbd2 (f_X12_takes a0 (23 : Int32) (23 : Int32) μ) fun r2 μ3 =>
  zbd (if ¬ r2 = (23 : Int32) then
      some μ3
    else
      zbd (f_X12_further a0 x1 (0 : Int32) (8 : Int32) (1 : Int32) (2 : Int32) (20 : Int32) μ3) fun μ6 =>
      some μ6) fun μ7 =>
  zbd (f_X12_endsLine a0 μ7) fun μ8 =>
  some μ8
set_option maxHeartbeats 4000000 in
set_option maxRecDepth 100000 in
theorem r_X12_nightLine {l : Launch} {g : zL} {κ : zK} (a0 : Nat) (μ : zM) (hT0 : zT zNN zσ1 a0 12) (hSp : zSK g κ) {μr : zM} (h : f_X12_nightLine a0 μ = some μr) : zMet l g yX12_nightLine cX12_nightLine 2 none 7 0 0 zNN zNN zσ1 zσ1 [.ref (zb g + a0)] μ none μr := by
  refine zMet.of (by decide +kernel) (Nat.le_of_ble_eq_true rfl) ?_
  intro p e s m args below meth c C0
  have hF := hSp.at C0
  refine z_loc (lo1 := [(0, .ref (zb g + a0))]) rfl ?_
  unfold f_X12_nightLine at h
  refine z_aload_n C0 dX12_nightLine_0 rfl 0 rfl ?_
  refine z_geti C0 hT0.1 hT0.2.2.1 kf_12_76 zr_12_4 dX12_nightLine_1 ?_
  obtain ⟨x1, e_x1, h⟩ := zl_of h
  refine z_nm e_x1 ?_
  refine z_istore_n (lo1 := [(1, .int x1), (0, .ref (zb g + a0))]) C0 dX12_nightLine_4 rfl (by decide) rfl ?_
  refine z_aload_n C0 dX12_nightLine_5 rfl 1 rfl ?_
  refine z_bipush (v := (23 : Int32)) C0 dX12_nightLine_6 (by decide) ?_
  refine z_bipush (v := (23 : Int32)) C0 dX12_nightLine_8 (by decide) ?_
  obtain ⟨r2, μ3, e_r2, h⟩ := zbd2_of h
  refine z_callV (As := [.int (23 : Int32), .int (23 : Int32)]) (rest := []) C0 rfl kc_X12_takes km_RX12_127 (r_X12_takes (l := l) (g := g) a0 (23 : Int32) (23 : Int32) μ hT0 e_r2) hT0.1 hT0.2.2.1 rfl (by decide) rfl (Nat.le_of_ble_eq_true rfl) (Nat.le_of_ble_eq_true rfl) (Nat.le_of_ble_eq_true rfl) (Nat.le_of_ble_eq_true rfl) (Nat.le_refl _) rfl rfl dX12_nightLine_10 ?_
  refine z_bipush (v := (23 : Int32)) C0 dX12_nightLine_13 (by decide) ?_
  obtain ⟨μ7, e_μ7, h⟩ := zbd_of h
  refine z_join μ7 30 [(0, .ref (zb g + a0))] [] ?_ (fun k_J5 => ?_)
  · refine z_aload_n C0 dX12_nightLine_30 rfl 0 rfl ?_
    obtain ⟨μ8, e_μ8, h⟩ := zbd_of h
    refine z_callV (As := []) (rest := []) C0 rfl kc_X12_endsLine km_RX12_137 (r_X12_endsLine (l := l) (g := g) a0 μ7 hT0 e_μ8) hT0.1 hT0.2.2.1 rfl (by decide) rfl (Nat.le_of_ble_eq_true rfl) (Nat.le_of_ble_eq_true rfl) (Nat.le_of_ble_eq_true rfl) (Nat.le_of_ble_eq_true rfl) (Nat.le_refl _) rfl rfl dX12_nightLine_31 ?_
    have h := Option.some.inj h
    obtain rfl := h
    exact z_vret C0 rfl dX12_nightLine_34
  · have h := e_μ7
    refine z_icmp_ne C0 30 dX12_nightLine_15 (by decide) (fun c4 => ?_) (fun c4 => ?_)
    · have h := zif_t c4 h
      refine z_sub (lo1 := [(0, .ref (zb g + a0))]) [1] rfl ?_
      obtain rfl := (Option.some.inj h)
      exact k_J5
    · have h := zif_f (fun q => q c4) h
      refine z_aload_n C0 dX12_nightLine_18 rfl 1 rfl ?_
      refine z_iload_n C0 dX12_nightLine_19 rfl 0 rfl ?_
      refine z_iconst (v := (0 : Int32)) C0 dX12_nightLine_20 (by decide) ?_
      refine z_bipush (v := (8 : Int32)) C0 dX12_nightLine_21 (by decide) ?_
      refine z_iconst (v := (1 : Int32)) C0 dX12_nightLine_23 (by decide) ?_
      refine z_iconst (v := (2 : Int32)) C0 dX12_nightLine_24 (by decide) ?_
      refine z_bipush (v := (20 : Int32)) C0 dX12_nightLine_25 (by decide) ?_
      obtain ⟨μ6, e_μ6, h⟩ := zbd_of h
      refine z_callV (As := [.int x1, .int (0 : Int32), .int (8 : Int32), .int (1 : Int32), .int (2 : Int32), .int (20 : Int32)]) (rest := []) C0 rfl kc_X12_further km_RX12_130 (r_X12_further (l := l) (g := g) a0 x1 (0 : Int32) (8 : Int32) (1 : Int32) (2 : Int32) (20 : Int32) μ3 hT0 hSp e_μ6) hT0.1 hT0.2.2.1 rfl (by decide) rfl (Nat.le_of_ble_eq_true rfl) (Nat.le_of_ble_eq_true rfl) (Nat.le_of_ble_eq_true rfl) (Nat.le_of_ble_eq_true rfl) (Nat.le_refl _) rfl rfl dX12_nightLine_27 ?_
      refine z_sub (lo1 := [(0, .ref (zb g + a0))]) [1] rfl ?_
      obtain rfl := (Option.some.inj h)
      exact k_J5
def f_X12_termOf (a0 : Nat) (v1 : Int32) (v2 : Int32) (μ : zM) : Option (Int32) :=
  zg (zin ((((μ a0 25) + (1 : Int32)) + ((3 : Int32) * v1)) + v2) 4688) <|
  some (μ (a0 + 1) (((((μ a0 25) + (1 : Int32)) + ((3 : Int32) * v1)) + v2).toNatClampNeg))
set_option maxHeartbeats 4000000 in
set_option maxRecDepth 100000 in
theorem r_X12_termOf {l : Launch} {g : zL} (a0 : Nat) (v1 : Int32) (v2 : Int32) (μ : zM) (hT0 : zT zNN zσ1 a0 12) {rv : Int32} (h : f_X12_termOf a0 v1 v2 μ = some rv) : zMet l g yX12_termOf cX12_termOf 3 (some (.int)) 0 0 0 zNN zNN zσ1 zσ1 [.ref (zb g + a0), .int v1, .int v2] μ (some (.int rv)) μ := by
  refine zMet.of (by decide +kernel) (Nat.le_of_ble_eq_true rfl) ?_
  intro p e s m args below meth c C0
  refine z_loc (lo1 := [(0, .ref (zb g + a0)), (1, .int v1), (2, .int v2)]) rfl ?_
  unfold f_X12_termOf at h
  refine z_aload_n C0 dX12_termOf_0 rfl 0 rfl ?_
  refine z_getr C0 hT0 kf_12_7 zr_12_0 zx_12 (zs_12_0 hT0).1 dX12_termOf_1 ?_
  refine z_aload_n C0 dX12_termOf_4 rfl 0 rfl ?_
  refine z_geti C0 hT0.1 hT0.2.2.1 kf_12_323 zr_12_25 dX12_termOf_5 ?_
  refine z_iconst (v := (1 : Int32)) C0 dX12_termOf_8 (by decide) ?_
  refine z_iadd C0 dX12_termOf_9 ?_
  refine z_iconst (v := (3 : Int32)) C0 dX12_termOf_10 (by decide) ?_
  refine z_iload_n C0 dX12_termOf_11 rfl 1 rfl ?_
  refine z_imul C0 dX12_termOf_12 ?_
  refine z_iadd C0 dX12_termOf_13 ?_
  refine z_iload_n C0 dX12_termOf_14 rfl 2 rfl ?_
  refine z_iadd C0 dX12_termOf_15 ?_
  obtain ⟨g1, h⟩ := zg_of h
  refine z_iald C0 (zs_12_0 hT0).2 g1 rfl dX12_termOf_16 ?_
  have h := Option.some.inj h
  obtain rfl := h
  exact z_iret C0 rfl dX12_termOf_17
def f_X12_owes (a0 : Nat) (v1 : Int32) (v2 : Int32) (μ : zM) : Option (Int32) :=
  zbd (f_X12_termOf a0 v2 (1 : Int32) μ) fun r1 =>
  zbd (f_X12_termOf a0 v2 (2 : Int32) μ) fun r2 =>
  zbd (f_X12_termOf a0 v2 (0 : Int32) μ) fun r3 =>
  if r3 = (0 : Int32) then
    zbd (f_X12_allGraves a0 μ) fun r4 =>
    some (v1 + (r1 * r4))
  else
  if r3 = (1 : Int32) then
    zbd (f_X12_listOf a0 (0 : Int32) μ) fun r5 =>
    zbd (f_X12_listOf a0 (1 : Int32) μ) fun r6 =>
    zl (if ((f_X12_size r5) + (f_X12_size r6)) ≤ r1 then
        (0 : Int32)
      else
        r2) fun x9 =>
    some (v1 + x9)
  else
  if r3 = (2 : Int32) then
    zl (if ¬ (((μ a0 16) >>> (r1 &&& 31)) &&& (1 : Int32)) = (1 : Int32) then
        (0 : Int32)
      else
        r2) fun x12 =>
    some (v1 + x12)
  else
  if r3 = (3 : Int32) then
    zbd (f_X12_allWater a0 μ) fun r13 =>
    some (v1 + (r1 * r13))
  else
  if r3 = (4 : Int32) then
    zl (if ¬ (((μ a0 12) + (μ a0 13)) % (2 : Int32)) = (1 : Int32) then
        (0 : Int32)
      else
        r1) fun x16 =>
    some (v1 + x16)
  else
    zl (if v1 ≤ r1 then
        v1
      else
        r1) fun x19 =>
    some x19
set_option maxHeartbeats 4000000 in
set_option maxRecDepth 100000 in
theorem r_X12_owes {l : Launch} {g : zL} (a0 : Nat) (v1 : Int32) (v2 : Int32) (μ : zM) (hT0 : zT zNN zσ1 a0 12) {rv : Int32} (h : f_X12_owes a0 v1 v2 μ = some rv) : zMet l g yX12_owes cX12_owes 5 (some (.int)) 4 0 0 zNN zNN zσ1 zσ1 [.ref (zb g + a0), .int v1, .int v2] μ (some (.int rv)) μ := by
  refine zMet.of (by decide +kernel) (Nat.le_of_ble_eq_true rfl) ?_
  intro p e s m args below meth c C0
  refine z_loc (lo1 := [(0, .ref (zb g + a0)), (1, .int v1), (2, .int v2)]) rfl ?_
  unfold f_X12_owes at h
  refine z_aload_n C0 dX12_owes_0 rfl 0 rfl ?_
  refine z_iload_n C0 dX12_owes_1 rfl 2 rfl ?_
  refine z_iconst (v := (1 : Int32)) C0 dX12_owes_2 (by decide) ?_
  obtain ⟨r1, e_r1, h⟩ := zbd_of h
  refine z_callV (As := [.int v2, .int (1 : Int32)]) (rest := []) C0 rfl kc_X12_termOf km_RX12_326 (r_X12_termOf (l := l) (g := g) a0 v2 (1 : Int32) μ hT0 e_r1) hT0.1 hT0.2.2.1 rfl (by decide) rfl (Nat.le_of_ble_eq_true rfl) (Nat.le_of_ble_eq_true rfl) (Nat.le_of_ble_eq_true rfl) (Nat.le_of_ble_eq_true rfl) (Nat.le_refl _) rfl rfl dX12_owes_3 ?_
  refine z_istore_n (lo1 := [(3, .int r1), (0, .ref (zb g + a0)), (1, .int v1), (2, .int v2)]) C0 dX12_owes_6 rfl (by decide) rfl ?_
  refine z_aload_n C0 dX12_owes_7 rfl 1 rfl ?_
  refine z_iload_n C0 dX12_owes_8 rfl 3 rfl ?_
  refine z_iconst (v := (2 : Int32)) C0 dX12_owes_9 (by decide) ?_
  obtain ⟨r2, e_r2, h⟩ := zbd_of h
  refine z_callV (As := [.int v2, .int (2 : Int32)]) (rest := []) C0 rfl kc_X12_termOf km_RX12_326 (r_X12_termOf (l := l) (g := g) a0 v2 (2 : Int32) μ hT0 e_r2) hT0.1 hT0.2.2.1 rfl (by decide) rfl (Nat.le_of_ble_eq_true rfl) (Nat.le_of_ble_eq_true rfl) (Nat.le_of_ble_eq_true rfl) (Nat.le_of_ble_eq_true rfl) (Nat.le_refl _) rfl rfl dX12_owes_10 ?_
  refine z_istore (lo1 := [(4, .int r2), (3, .int r1), (0, .ref (zb g + a0)), (1, .int v1), (2, .int v2)]) C0 dX12_owes_13 (by decide) rfl ?_
  refine z_aload_n C0 dX12_owes_15 rfl 2 rfl ?_
  refine z_iload_n C0 dX12_owes_16 rfl 4 rfl ?_
  refine z_iconst (v := (0 : Int32)) C0 dX12_owes_17 (by decide) ?_
  obtain ⟨r3, e_r3, h⟩ := zbd_of h
  refine z_callV (As := [.int v2, .int (0 : Int32)]) (rest := []) C0 rfl kc_X12_termOf km_RX12_326 (r_X12_termOf (l := l) (g := g) a0 v2 (0 : Int32) μ hT0 e_r3) hT0.1 hT0.2.2.1 rfl (by decide) rfl (Nat.le_of_ble_eq_true rfl) (Nat.le_of_ble_eq_true rfl) (Nat.le_of_ble_eq_true rfl) (Nat.le_of_ble_eq_true rfl) (Nat.le_refl _) rfl rfl dX12_owes_18 ?_
  by_cases c20 : r3 = (0 : Int32)
  · have h := zif_t c20 h
    refine z_tabK C0 (35) 56 dX12_owes_21 c20 (by decide) (by decide) (by decide) (by decide) ?_
    refine z_iload_n C0 dX12_owes_56 rfl 3 rfl ?_
    refine z_iload_n C0 dX12_owes_57 rfl 1 rfl ?_
    refine z_aload_n C0 dX12_owes_58 rfl 2 rfl ?_
    obtain ⟨r4, e_r4, h⟩ := zbd_of h
    refine z_callV (As := []) (rest := [.int r1, .int v1]) C0 rfl kc_X12_allGraves km_RX12_329 (r_X12_allGraves (l := l) (g := g) a0 μ hT0 e_r4) hT0.1 hT0.2.2.1 rfl (by decide) rfl (Nat.le_of_ble_eq_true rfl) (Nat.le_of_ble_eq_true rfl) (Nat.le_of_ble_eq_true rfl) (Nat.le_of_ble_eq_true rfl) (Nat.le_refl _) rfl rfl dX12_owes_59 ?_
    refine z_imul C0 dX12_owes_62 ?_
    refine z_iadd C0 dX12_owes_63 ?_
    have h := Option.some.inj h
    obtain rfl := h
    exact z_iret C0 rfl dX12_owes_64
  · have h := zif_f c20 h
    by_cases c21 : r3 = (1 : Int32)
    · have h := zif_t c21 h
      refine z_tabK C0 (44) 65 dX12_owes_21 c21 (by decide) (by decide) (by decide) (by decide) ?_
      refine z_iload_n C0 dX12_owes_65 rfl 3 rfl ?_
      refine z_aload_n C0 dX12_owes_66 rfl 2 rfl ?_
      refine z_iconst (v := (0 : Int32)) C0 dX12_owes_67 (by decide) ?_
      obtain ⟨r5, e_r5, h⟩ := zbd_of h
      refine z_callV (As := [.int (0 : Int32)]) (rest := [.int v1]) C0 rfl kc_X12_listOf km_RX12_260 (r_X12_listOf (l := l) (g := g) a0 (0 : Int32) μ hT0 e_r5) hT0.1 hT0.2.2.1 rfl (by decide) rfl (Nat.le_of_ble_eq_true rfl) (Nat.le_of_ble_eq_true rfl) (Nat.le_of_ble_eq_true rfl) (Nat.le_of_ble_eq_true rfl) (Nat.le_refl _) rfl rfl dX12_owes_68 ?_
      refine z_callS (As := [.int r5]) (rest := [.int v1]) C0 rfl kc_X12_size km_RX12_195 (r_X12_size (l := l) (g := g) (μ := μ) r5 rfl) rfl (Nat.le_of_ble_eq_true rfl) (Nat.le_of_ble_eq_true rfl) (Nat.le_of_ble_eq_true rfl) (Nat.le_of_ble_eq_true rfl) (Nat.le_refl _) rfl rfl dX12_owes_71 ?_
      refine z_aload_n C0 dX12_owes_74 rfl 2 rfl ?_
      refine z_iconst (v := (1 : Int32)) C0 dX12_owes_75 (by decide) ?_
      obtain ⟨r6, e_r6, h⟩ := zbd_of h
      refine z_callV (As := [.int (1 : Int32)]) (rest := [.int (f_X12_size r5), .int v1]) C0 rfl kc_X12_listOf km_RX12_260 (r_X12_listOf (l := l) (g := g) a0 (1 : Int32) μ hT0 e_r6) hT0.1 hT0.2.2.1 rfl (by decide) rfl (Nat.le_of_ble_eq_true rfl) (Nat.le_of_ble_eq_true rfl) (Nat.le_of_ble_eq_true rfl) (Nat.le_of_ble_eq_true rfl) (Nat.le_refl _) rfl rfl dX12_owes_76 ?_
      refine z_callS (As := [.int r6]) (rest := [.int (f_X12_size r5), .int v1]) C0 rfl kc_X12_size km_RX12_195 (r_X12_size (l := l) (g := g) (μ := μ) r6 rfl) rfl (Nat.le_of_ble_eq_true rfl) (Nat.le_of_ble_eq_true rfl) (Nat.le_of_ble_eq_true rfl) (Nat.le_of_ble_eq_true rfl) (Nat.le_refl _) rfl rfl dX12_owes_79 ?_
      refine z_iadd C0 dX12_owes_82 ?_
      refine z_iload_n C0 dX12_owes_83 rfl 1 rfl ?_
      obtain ⟨x9, e_x9, h⟩ := zl_of h
      refine z_join μ 93 [] [.int x9, .int v1] ?_ (fun k_J8 => ?_)
      · refine z_iadd C0 dX12_owes_93 ?_
        have h := Option.some.inj h
        obtain rfl := h
        exact z_iret C0 rfl dX12_owes_94
      · have h := e_x9.symm
        refine z_icmp_le C0 92 dX12_owes_84 (by decide) (fun c7 => ?_) (fun c7 => ?_)
        · have h := zif_t c7 h
          refine z_iconst (v := (0 : Int32)) C0 dX12_owes_92 (by decide) ?_
          refine z_sub (lo1 := []) [] rfl ?_
          obtain rfl := h
          exact k_J8
        · have h := zif_f c7 h
          refine z_iload C0 dX12_owes_87 0 rfl ?_
          refine z_goto C0 93 dX12_owes_89 (by decide) ?_
          refine z_sub (lo1 := []) [] rfl ?_
          obtain rfl := h
          exact k_J8
    · have h := zif_f c21 h
      by_cases c22 : r3 = (2 : Int32)
      · have h := zif_t c22 h
        refine z_tabK C0 (74) 95 dX12_owes_21 c22 (by decide) (by decide) (by decide) (by decide) ?_
        refine z_iload_n C0 dX12_owes_95 rfl 3 rfl ?_
        refine z_aload_n C0 dX12_owes_96 rfl 2 rfl ?_
        refine z_geti C0 hT0.1 hT0.2.2.1 kf_12_233 zr_12_16 dX12_owes_97 ?_
        refine z_iload_n C0 dX12_owes_100 rfl 1 rfl ?_
        refine z_ishr C0 dX12_owes_101 ?_
        refine z_iconst (v := (1 : Int32)) C0 dX12_owes_102 (by decide) ?_
        refine z_iand C0 dX12_owes_103 ?_
        refine z_iconst (v := (1 : Int32)) C0 dX12_owes_104 (by decide) ?_
        obtain ⟨x12, e_x12, h⟩ := zl_of h
        refine z_join μ 114 [] [.int x12, .int v1] ?_ (fun k_J11 => ?_)
        · refine z_iadd C0 dX12_owes_114 ?_
          have h := Option.some.inj h
          obtain rfl := h
          exact z_iret C0 rfl dX12_owes_115
        · have h := e_x12.symm
          refine z_icmp_ne C0 113 dX12_owes_105 (by decide) (fun c10 => ?_) (fun c10 => ?_)
          · have h := zif_t c10 h
            refine z_iconst (v := (0 : Int32)) C0 dX12_owes_113 (by decide) ?_
            refine z_sub (lo1 := []) [] rfl ?_
            obtain rfl := h
            exact k_J11
          · have h := zif_f (fun q => q c10) h
            refine z_iload C0 dX12_owes_108 0 rfl ?_
            refine z_goto C0 114 dX12_owes_110 (by decide) ?_
            refine z_sub (lo1 := []) [] rfl ?_
            obtain rfl := h
            exact k_J11
      · have h := zif_f c22 h
        by_cases c23 : r3 = (3 : Int32)
        · have h := zif_t c23 h
          refine z_tabK C0 (95) 116 dX12_owes_21 c23 (by decide) (by decide) (by decide) (by decide) ?_
          refine z_iload_n C0 dX12_owes_116 rfl 3 rfl ?_
          refine z_iload_n C0 dX12_owes_117 rfl 1 rfl ?_
          refine z_aload_n C0 dX12_owes_118 rfl 2 rfl ?_
          obtain ⟨r13, e_r13, h⟩ := zbd_of h
          refine z_callV (As := []) (rest := [.int r1, .int v1]) C0 rfl kc_X12_allWater km_RX12_273 (r_X12_allWater (l := l) (g := g) a0 μ hT0 e_r13) hT0.1 hT0.2.2.1 rfl (by decide) rfl (Nat.le_of_ble_eq_true rfl) (Nat.le_of_ble_eq_true rfl) (Nat.le_of_ble_eq_true rfl) (Nat.le_of_ble_eq_true rfl) (Nat.le_refl _) rfl rfl dX12_owes_119 ?_
          refine z_imul C0 dX12_owes_122 ?_
          refine z_iadd C0 dX12_owes_123 ?_
          have h := Option.some.inj h
          obtain rfl := h
          exact z_iret C0 rfl dX12_owes_124
        · have h := zif_f c23 h
          by_cases c24 : r3 = (4 : Int32)
          · have h := zif_t c24 h
            refine z_tabK C0 (104) 125 dX12_owes_21 c24 (by decide) (by decide) (by decide) (by decide) ?_
            refine z_iload_n C0 dX12_owes_125 rfl 3 rfl ?_
            refine z_aload_n C0 dX12_owes_126 rfl 2 rfl ?_
            refine z_geti C0 hT0.1 hT0.2.2.1 kf_12_218 zr_12_12 dX12_owes_127 ?_
            refine z_aload_n C0 dX12_owes_130 rfl 2 rfl ?_
            refine z_geti C0 hT0.1 hT0.2.2.1 kf_12_221 zr_12_13 dX12_owes_131 ?_
            refine z_iadd C0 dX12_owes_134 ?_
            refine z_iconst (v := (2 : Int32)) C0 dX12_owes_135 (by decide) ?_
            refine z_irem C0 dX12_owes_136 (by decide) ?_
            refine z_iconst (v := (1 : Int32)) C0 dX12_owes_137 (by decide) ?_
            obtain ⟨x16, e_x16, h⟩ := zl_of h
            refine z_join μ 146 [] [.int x16, .int v1] ?_ (fun k_J15 => ?_)
            · refine z_iadd C0 dX12_owes_146 ?_
              have h := Option.some.inj h
              obtain rfl := h
              exact z_iret C0 rfl dX12_owes_147
            · have h := e_x16.symm
              refine z_icmp_ne C0 145 dX12_owes_138 (by decide) (fun c14 => ?_) (fun c14 => ?_)
              · have h := zif_t c14 h
                refine z_iconst (v := (0 : Int32)) C0 dX12_owes_145 (by decide) ?_
                refine z_sub (lo1 := []) [] rfl ?_
                obtain rfl := h
                exact k_J15
              · have h := zif_f (fun q => q c14) h
                refine z_iload_n C0 dX12_owes_141 rfl 1 rfl ?_
                refine z_goto C0 146 dX12_owes_142 (by decide) ?_
                refine z_sub (lo1 := []) [] rfl ?_
                obtain rfl := h
                exact k_J15
          · have h := zif_f c24 h
            refine z_join μ 148 [(4, .int r2), (3, .int r1), (0, .ref (zb g + a0)), (1, .int v1), (2, .int v2)] [] ?_ (fun k25 => ?_)
            · refine z_iload_n C0 dX12_owes_148 rfl 3 rfl ?_
              refine z_iload_n C0 dX12_owes_149 rfl 1 rfl ?_
              obtain ⟨x19, e_x19, h⟩ := zl_of h
              refine z_join μ 158 [] [.int x19] ?_ (fun k_J18 => ?_)
              · have h := Option.some.inj h
                obtain rfl := h
                exact z_iret C0 rfl dX12_owes_158
              · have h := e_x19.symm
                refine z_icmp_le C0 157 dX12_owes_150 (by decide) (fun c17 => ?_) (fun c17 => ?_)
                · have h := zif_t c17 h
                  refine z_iload_n C0 dX12_owes_157 rfl 3 rfl ?_
                  refine z_sub (lo1 := []) [] rfl ?_
                  obtain rfl := h
                  exact k_J18
                · have h := zif_f c17 h
                  refine z_iload_n C0 dX12_owes_153 rfl 1 rfl ?_
                  refine z_goto C0 158 dX12_owes_154 (by decide) ?_
                  refine z_sub (lo1 := []) [] rfl ?_
                  obtain rfl := h
                  exact k_J18
            · have c20 : r3.toInt ≠ 0 := fun q => c20 (Int32.toInt_inj.mp (q.trans (by decide)))
              have c21 : r3.toInt ≠ 1 := fun q => c21 (Int32.toInt_inj.mp (q.trans (by decide)))
              have c22 : r3.toInt ≠ 2 := fun q => c22 (Int32.toInt_inj.mp (q.trans (by decide)))
              have c23 : r3.toInt ≠ 3 := fun q => c23 (Int32.toInt_inj.mp (q.trans (by decide)))
              have c24 : r3.toInt ≠ 4 := fun q => c24 (Int32.toInt_inj.mp (q.trans (by decide)))
              exact z_tabOut C0 148 dX12_owes_21 (by omega) (by decide) k25
def f_X12_owed_L38 (a0 : Nat) (μ12 : zM) : Nat → Int32 → Int32 → Option (Int32)
  | 0, _, _ => none
  | n + 1, y10, y11 =>
    zg (zin (μ12 a0 25) 4688) <|
    if (μ12 (a0 + 1) ((μ12 a0 25).toNatClampNeg)) ≤ y11 then
      some y10
    else
      zbd (f_X12_owes a0 y10 y11 μ12) fun r15 =>
      zl (y11 + (1 : Int32)) fun x16 =>
      f_X12_owed_L38 a0 μ12 n r15 x16
def f_X12_owed (a0 : Nat) (v1 : Int32) (v2 : Int32) (v3 : Int32) (v4 : Int32) (μ : zM) : Option (Int32 × zM) :=
  zbd2 (f_X12_isState a0 v1 v2 v3 μ) fun r1 μ2 =>
  zbd (if r1 = 0 then
      some false
    else
      zbd (f_X12_isOf a0 (4 : Int32) v4 μ2) fun r5 =>
      if ¬ r5 = 0 then
        some true
      else
        some false) fun b7 =>
  if b7 = true then
    zl (zup μ2 a0 25 (f_X12_placeOf (4 : Int32) v4)) fun μ8 =>
    zbd (f_X12_owed_L38 a0 μ8 zFU (0 : Int32) (0 : Int32)) fun x17 =>
    some (x17, μ8)
  else
    some ((-1 : Int32), μ2)
set_option maxHeartbeats 4000000 in
set_option maxRecDepth 100000 in
theorem r_X12_owed_L38 {l : Launch} {g : zL} {p : Program} {e : Env} {s : State} {m : MethodId} {args : Array Value} {below : List Frame} {meth : Method} {c : Code} {Q : State → Prop} (C0 : zC p s m args meth c g cX12_owed yX12_owed 7 (some (.int))) (a0 : Nat) (μ12 : zM) (hU9 : zT zNN zσ1 a0 12) : ∀ (n : Nat) (y10 : Int32) (y11 : Int32) (x17 : Int32), f_X12_owed_L38 a0 μ12 n y10 y11 = some x17 → Z p l e (zrm 9 0 0) s m args below meth c g Q 7 zNN 0 0 zσ1 μ12 68 [(5, .int x17)] [] → Z p l e (zrm 9 0 0) s m args below meth c g Q 7 zNN 0 0 zσ1 μ12 38 [(0, .ref (zb g + a0)), (5, .int y10), (6, .int y11)] [] := by
  intro n
  induction n with
  | zero =>
    intro y10 y11 x17 h kx
    rw [f_X12_owed_L38] at h
    cases h
  | succ n ih =>
    intro y10 y11 x17 h kx
    rw [f_X12_owed_L38] at h
    refine z_iload C0 dX12_owed_38 2 rfl ?_
    refine z_aload_n C0 dX12_owed_40 rfl 0 rfl ?_
    refine z_getr C0 hU9 kf_12_7 zr_12_0 zx_12 (zs_12_0 hU9).1 dX12_owed_41 ?_
    refine z_aload_n C0 dX12_owed_44 rfl 0 rfl ?_
    refine z_geti C0 hU9.1 hU9.2.2.1 kf_12_323 zr_12_25 dX12_owed_45 ?_
    obtain ⟨g13, h⟩ := zg_of h
    refine z_iald C0 (zs_12_0 hU9).2 g13 rfl dX12_owed_48 ?_
    refine z_icmp_ge C0 68 dX12_owed_49 (by decide) (fun c14 => ?_) (fun c14 => ?_)
    · have h := zif_t c14 h
      refine z_sub (lo1 := [(5, .int y10)]) [1] rfl ?_
      obtain rfl := (Option.some.inj h)
      exact kx
    · have h := zif_f c14 h
      refine z_aload_n C0 dX12_owed_52 rfl 0 rfl ?_
      refine z_iload C0 dX12_owed_53 1 rfl ?_
      refine z_iload C0 dX12_owed_55 2 rfl ?_
      obtain ⟨r15, e_r15, h⟩ := zbd_of h
      refine z_callV (As := [.int y10, .int y11]) (rest := []) C0 rfl kc_X12_owes km_RX12_332 (r_X12_owes (l := l) (g := g) a0 y10 y11 μ12 hU9 e_r15) hU9.1 hU9.2.2.1 rfl (by decide) rfl (Nat.le_of_ble_eq_true rfl) (Nat.le_of_ble_eq_true rfl) (Nat.le_of_ble_eq_true rfl) (Nat.le_of_ble_eq_true rfl) (Nat.le_refl _) rfl rfl dX12_owed_57 ?_
      refine z_istore (lo1 := [(5, .int r15), (0, .ref (zb g + a0)), (6, .int y11)]) C0 dX12_owed_60 (by decide) rfl ?_
      obtain ⟨x16, e_x16, h⟩ := zl_of h
      refine z_iinc (lo1 := [(6, .int x16), (5, .int r15), (0, .ref (zb g + a0))]) C0 dX12_owed_62 2 rfl (by decide) e_x16.symm (by decide) rfl ?_
      refine z_goto C0 38 dX12_owed_65 (by decide) ?_
      refine z_sub (lo1 := [(0, .ref (zb g + a0)), (5, .int r15), (6, .int x16)]) [2, 1, 0] rfl ?_
      exact ih _ _ _ h kx
set_option maxHeartbeats 4000000 in
set_option maxRecDepth 100000 in
theorem r_X12_owed {l : Launch} {g : zL} (a0 : Nat) (v1 : Int32) (v2 : Int32) (v3 : Int32) (v4 : Int32) (μ : zM) (hT0 : zT zNN zσ1 a0 12) {rv : Int32} {μr : zM} (h : f_X12_owed a0 v1 v2 v3 v4 μ = some (rv, μr)) : zMet l g yX12_owed cX12_owed 7 (some (.int)) 9 0 0 zNN zNN zσ1 zσ1 [.ref (zb g + a0), .int v1, .int v2, .int v3, .int v4] μ (some (.int rv)) μr := by
  refine zMet.of (by decide +kernel) (Nat.le_of_ble_eq_true rfl) ?_
  intro p e s m args below meth c C0
  refine z_loc (lo1 := [(0, .ref (zb g + a0)), (1, .int v1), (2, .int v2), (3, .int v3), (4, .int v4)]) rfl ?_
  unfold f_X12_owed at h
  refine z_aload_n C0 dX12_owed_0 rfl 0 rfl ?_
  refine z_iload_n C0 dX12_owed_1 rfl 1 rfl ?_
  refine z_iload_n C0 dX12_owed_2 rfl 2 rfl ?_
  refine z_iload_n C0 dX12_owed_3 rfl 3 rfl ?_
  obtain ⟨r1, μ2, e_r1, h⟩ := zbd2_of h
  refine z_callV (As := [.int v1, .int v2, .int v3]) (rest := []) C0 rfl kc_X12_isState km_RX12_310 (r_X12_isState (l := l) (g := g) a0 v1 v2 v3 μ hT0 e_r1) hT0.1 hT0.2.2.1 rfl (by decide) rfl (Nat.le_of_ble_eq_true rfl) (Nat.le_of_ble_eq_true rfl) (Nat.le_of_ble_eq_true rfl) (Nat.le_of_ble_eq_true rfl) (Nat.le_refl _) rfl rfl dX12_owed_4 ?_
  obtain ⟨b7, e_b7, h⟩ := zbd_of h
  refine z_joinb b7 μ2 22 20 [(0, .ref (zb g + a0)), (1, .int v1), (2, .int v2), (3, .int v3), (4, .int v4)] [] (fun z20 => ?_) (fun z20 => ?_) (fun k18 k19 => ?_)
  · have h := zif_t z20 h
    refine z_aload_n C0 dX12_owed_22 rfl 0 rfl ?_
    refine z_iconst (v := (4 : Int32)) C0 dX12_owed_23 (by decide) ?_
    refine z_iload C0 dX12_owed_24 4 rfl ?_
    refine z_callS (As := [.int (4 : Int32), .int v4]) (rest := [.ref (zb g + a0)]) C0 rfl kc_X12_placeOf km_RX12_174 (r_X12_placeOf (l := l) (g := g) (μ := μ2) (4 : Int32) v4 rfl) rfl (Nat.le_of_ble_eq_true rfl) (Nat.le_of_ble_eq_true rfl) (Nat.le_of_ble_eq_true rfl) (Nat.le_of_ble_eq_true rfl) (Nat.le_refl _) rfl rfl dX12_owed_26 ?_
    obtain ⟨μ8, e_μ8, h⟩ := zl_of h
    refine z_puti C0 hT0.1 hT0.2.2.1 kf_12_323 zp_12_25 zr_12_25 e_μ8 dX12_owed_29 ?_
    refine z_iconst (v := (0 : Int32)) C0 dX12_owed_32 (by decide) ?_
    refine z_istore (lo1 := [(5, .int (0 : Int32)), (0, .ref (zb g + a0)), (1, .int v1), (2, .int v2), (3, .int v3), (4, .int v4)]) C0 dX12_owed_33 (by decide) rfl ?_
    refine z_iconst (v := (0 : Int32)) C0 dX12_owed_35 (by decide) ?_
    refine z_istore (lo1 := [(6, .int (0 : Int32)), (5, .int (0 : Int32)), (0, .ref (zb g + a0)), (1, .int v1), (2, .int v2), (3, .int v3), (4, .int v4)]) C0 dX12_owed_36 (by decide) rfl ?_
    refine z_sub (lo1 := [(0, .ref (zb g + a0)), (5, .int (0 : Int32)), (6, .int (0 : Int32))]) [2, 1, 0] rfl ?_
    obtain ⟨x17, e_x17, h⟩ := zbd_of h
    refine r_X12_owed_L38 C0 a0 μ8 hT0 zFU (0 : Int32) (0 : Int32) x17 e_x17 ?_
    refine z_iload C0 dX12_owed_68 0 rfl ?_
    have h := Option.some.inj h
    obtain ⟨rfl, rfl⟩ := Prod.mk.inj h
    exact z_iret C0 rfl dX12_owed_70
  · have h := zif_f (fun q => Bool.noConfusion (z20.symm.trans q)) h
    refine z_iconst (v := (-1 : Int32)) C0 dX12_owed_20 (by decide) ?_
    have h := Option.some.inj h
    obtain ⟨rfl, rfl⟩ := Prod.mk.inj h
    exact z_iret C0 rfl dX12_owed_21
  · have h := e_b7
    refine z_if_eq C0 20 dX12_owed_7 (by decide) (fun c3 => ?_) (fun c3 => ?_)
    · have h := zif_t c3 h
      exact k19 (Option.some.inj h).symm
    · have h := zif_f c3 h
      refine z_aload_n C0 dX12_owed_10 rfl 0 rfl ?_
      refine z_iconst (v := (4 : Int32)) C0 dX12_owed_11 (by decide) ?_
      refine z_iload C0 dX12_owed_12 4 rfl ?_
      obtain ⟨r5, e_r5, h⟩ := zbd_of h
      refine z_callV (As := [.int (4 : Int32), .int v4]) (rest := []) C0 rfl kc_X12_isOf km_RX12_144 (r_X12_isOf (l := l) (g := g) a0 (4 : Int32) v4 μ2 hT0 e_r5) hT0.1 hT0.2.2.1 rfl (by decide) rfl (Nat.le_of_ble_eq_true rfl) (Nat.le_of_ble_eq_true rfl) (Nat.le_of_ble_eq_true rfl) (Nat.le_of_ble_eq_true rfl) (Nat.le_refl _) rfl rfl dX12_owed_14 ?_
      refine z_if_ne C0 22 dX12_owed_17 (by decide) (fun c6 => ?_) (fun c6 => ?_)
      · have h := zif_t c6 h
        exact k18 (Option.some.inj h).symm
      · have h := zif_f (fun q => q c6) h
        exact k19 (Option.some.inj h).symm
def f_X12_pull_L32 (a0 : Nat) (v2 : Int32) (v3 : Int32) : Nat → Int32 → Int32 → zM → Option ((Int32 × zM) ⊕ (Int32 × zM))
  | 0, _, _, _ => none
  | n + 1, y7, y8, μ9 =>
    if (9 : Int32) ≤ y8 then
      some (.inr (y7, μ9))
    else
      zbd2 (f_X12_isRest a0 v2 y8 μ9) fun r11 μ12 =>
      zbd (if ¬ r11 = 0 then
          if ¬ y7 = v3 then
            zl (y7 + (1 : Int32)) fun x17 =>
            some (.inr x17)
          else
            some (.inl (y8, μ12))
        else
          some (.inr y7)) fun q25 => zsum q25 (fun t => some (.inl t)) fun x18 =>
      zl (y8 + (1 : Int32)) fun x19 =>
      f_X12_pull_L32 a0 v2 v3 n x18 x19 μ12
def f_X12_pull (a0 : Nat) (v1 : Int32) (v2 : Int32) (v3 : Int32) (μ : zM) : Option (Int32 × zM) :=
  zbd2 (f_X12_isLake a0 v1 μ) fun r1 μ2 =>
  if (¬ (r1 = 0)) ∧ ((¬ ((f_X12_isIn v2 (1 : Int32) (12 : Int32)) = 0)) ∧ ((-1 : Int32) ≤ v3)) then
    zbd (f_X12_pull_L32 a0 v2 v3 zFU (0 : Int32) (0 : Int32) μ2) fun q26 => zsum q26 (fun t => some t) fun o27 =>
    zl2 o27 fun x20 μ21 =>
    zl (if ¬ v3 = (-1 : Int32) then
        (-2 : Int32)
      else
        x20) fun x24 =>
    some (x24, μ21)
  else
    some ((-2 : Int32), μ2)
set_option maxHeartbeats 4000000 in
set_option maxRecDepth 100000 in
theorem r_X12_pull_L32 {l : Launch} {g : zL} {p : Program} {e : Env} {s : State} {m : MethodId} {args : Array Value} {below : List Frame} {meth : Method} {c : Code} {rv : Int32} {μr : zM} (C0 : zC p s m args meth c g cX12_pull yX12_pull 6 (some (.int))) (a0 : Nat) (v2 : Int32) (v3 : Int32) (hU6 : zT zNN zσ1 a0 12) : ∀ (n : Nat) (y7 : Int32) (y8 : Int32) (μ9 : zM) (q : (Int32 × zM) ⊕ (Int32 × zM)), f_X12_pull_L32 a0 v2 v3 n y7 y8 μ9 = some q → (∀ t, q = Sum.inl t → t = (rv, μr)) → (∀ o, q = Sum.inr o → Z p l e (zrm 8 0 0) s m args below meth c g (MQ below (zQ g zNN zσ1 (some (.int rv)) μr) args s 0 0 (zA g)) 6 zNN 0 0 zσ1 ((fun o => o.2) o) 70 ((fun o => [(3, .int v3), (4, .int o.1)]) o) []) → Z p l e (zrm 8 0 0) s m args below meth c g (MQ below (zQ g zNN zσ1 (some (.int rv)) μr) args s 0 0 (zA g)) 6 zNN 0 0 zσ1 μ9 32 [(0, .ref (zb g + a0)), (2, .int v2), (3, .int v3), (4, .int y7), (5, .int y8)] [] := by
  intro n
  induction n with
  | zero =>
    intro y7 y8 μ9 q h kr kx
    rw [f_X12_pull_L32] at h
    cases h
  | succ n ih =>
    intro y7 y8 μ9 q h kr kx
    rw [f_X12_pull_L32] at h
    refine z_iload C0 dX12_pull_32 4 rfl ?_
    refine z_bipush (v := (9 : Int32)) C0 dX12_pull_34 (by decide) ?_
    refine z_icmp_ge C0 70 dX12_pull_36 (by decide) (fun c10 => ?_) (fun c10 => ?_)
    · have h := zif_t c10 h
      refine z_sub (lo1 := [(3, .int v3), (4, .int y7)]) [2, 3] rfl ?_
      exact kx (y7, μ9) (Option.some.inj h).symm
    · have h := zif_f c10 h
      refine z_aload_n C0 dX12_pull_39 rfl 0 rfl ?_
      refine z_iload_n C0 dX12_pull_40 rfl 1 rfl ?_
      refine z_iload C0 dX12_pull_41 4 rfl ?_
      obtain ⟨r11, μ12, e_r11, h⟩ := zbd2_of h
      refine z_callV (As := [.int v2, .int y8]) (rest := []) C0 rfl kc_X12_isRest km_RX12_363 (r_X12_isRest (l := l) (g := g) a0 v2 y8 μ9 hU6 e_r11) hU6.1 hU6.2.2.1 rfl (by decide) rfl (Nat.le_of_ble_eq_true rfl) (Nat.le_of_ble_eq_true rfl) (Nat.le_of_ble_eq_true rfl) (Nat.le_of_ble_eq_true rfl) (Nat.le_refl _) rfl rfl dX12_pull_43 ?_
      obtain ⟨q25, e_q25, h⟩ := zbd_of h
      have kr_J15 := zsum_l h
      have kx_J15 := zsum_r h
      clear h
      refine z_joinq (fun o => q25 = Sum.inr o) (fun o => μ12) 64 (fun o => [(0, .ref (zb g + a0)), (2, .int v2), (3, .int v3), (4, .int o), (5, .int y8)]) (fun o => []) ?_ (fun k_J15 => ?_)
      · intro x18 hq
        have h := kx_J15 _ hq
        obtain ⟨x19, e_x19, h⟩ := zl_of h
        refine z_iinc (lo1 := [(5, .int x19), (0, .ref (zb g + a0)), (2, .int v2), (3, .int v3), (4, .int x18)]) C0 dX12_pull_64 4 rfl (by decide) e_x19.symm (by decide) rfl ?_
        refine z_goto C0 32 dX12_pull_67 (by decide) ?_
        refine z_sub (lo1 := [(0, .ref (zb g + a0)), (2, .int v2), (3, .int v3), (4, .int x18), (5, .int x19)]) [1, 2, 3, 4, 0] rfl ?_
        exact ih _ _ _ _ h kr kx
      · have h := e_q25
        refine z_if_ne C0 52 dX12_pull_46 (by decide) (fun c13 => ?_) (fun c13 => ?_)
        · have h := zif_t c13 h
          refine z_iload C0 dX12_pull_52 3 rfl ?_
          refine z_iload_n C0 dX12_pull_54 rfl 2 rfl ?_
          refine z_icmp_ne C0 61 dX12_pull_55 (by decide) (fun c16 => ?_) (fun c16 => ?_)
          · have h := zif_t c16 h
            obtain ⟨x17, e_x17, h⟩ := zl_of h
            refine z_iinc (lo1 := [(4, .int x17), (0, .ref (zb g + a0)), (2, .int v2), (3, .int v3), (5, .int y8)]) C0 dX12_pull_61 3 rfl (by decide) e_x17.symm (by decide) rfl ?_
            refine z_sub (lo1 := [(0, .ref (zb g + a0)), (2, .int v2), (3, .int v3), (4, .int x17), (5, .int y8)]) [1, 2, 3, 0, 4] rfl ?_
            exact k_J15 x17 (Option.some.inj h).symm
          · have h := zif_f (fun q => q c16) h
            refine z_iload C0 dX12_pull_58 4 rfl ?_
            have h := kr_J15 _ (Option.some.inj h).symm
            have h := kr _ (Option.some.inj h).symm
            obtain ⟨rfl, rfl⟩ := Prod.mk.inj h
            exact z_iret C0 rfl dX12_pull_60
        · have h := zif_f (fun q => q c13) h
          refine z_goto C0 64 dX12_pull_49 (by decide) ?_
          exact k_J15 y7 (Option.some.inj h).symm
set_option maxHeartbeats 4000000 in
set_option maxRecDepth 100000 in
theorem r_X12_pull {l : Launch} {g : zL} (a0 : Nat) (v1 : Int32) (v2 : Int32) (v3 : Int32) (μ : zM) (hT0 : zT zNN zσ1 a0 12) {rv : Int32} {μr : zM} (h : f_X12_pull a0 v1 v2 v3 μ = some (rv, μr)) : zMet l g yX12_pull cX12_pull 6 (some (.int)) 8 0 0 zNN zNN zσ1 zσ1 [.ref (zb g + a0), .int v1, .int v2, .int v3] μ (some (.int rv)) μr := by
  refine zMet.of (by decide +kernel) (Nat.le_of_ble_eq_true rfl) ?_
  intro p e s m args below meth c C0
  refine z_loc (lo1 := [(0, .ref (zb g + a0)), (1, .int v1), (2, .int v2), (3, .int v3)]) rfl ?_
  unfold f_X12_pull at h
  refine z_aload_n C0 dX12_pull_0 rfl 0 rfl ?_
  refine z_iload_n C0 dX12_pull_1 rfl 1 rfl ?_
  obtain ⟨r1, μ2, e_r1, h⟩ := zbd2_of h
  refine z_callV (As := [.int v1]) (rest := []) C0 rfl kc_X12_isLake km_RX12_186 (r_X12_isLake (l := l) (g := g) a0 v1 μ hT0 e_r1) hT0.1 hT0.2.2.1 rfl (by decide) rfl (Nat.le_of_ble_eq_true rfl) (Nat.le_of_ble_eq_true rfl) (Nat.le_of_ble_eq_true rfl) (Nat.le_of_ble_eq_true rfl) (Nat.le_refl _) rfl rfl dX12_pull_2 ?_
  by_cases hc28 : (¬ (r1 = 0)) ∧ ((¬ ((f_X12_isIn v2 (1 : Int32) (12 : Int32)) = 0)) ∧ ((-1 : Int32) ≤ v3))
  · have h := zif_t hc28 h
    refine z_join μ2 26 [(0, .ref (zb g + a0)), (1, .int v1), (2, .int v2), (3, .int v3)] [] ?_ (fun k29 => ?_)
    · refine z_iconst (v := (0 : Int32)) C0 dX12_pull_26 (by decide) ?_
      refine z_istore (lo1 := [(4, .int (0 : Int32)), (0, .ref (zb g + a0)), (1, .int v1), (2, .int v2), (3, .int v3)]) C0 dX12_pull_27 (by decide) rfl ?_
      refine z_iconst (v := (0 : Int32)) C0 dX12_pull_29 (by decide) ?_
      refine z_istore (lo1 := [(5, .int (0 : Int32)), (4, .int (0 : Int32)), (0, .ref (zb g + a0)), (1, .int v1), (2, .int v2), (3, .int v3)]) C0 dX12_pull_30 (by decide) rfl ?_
      refine z_sub (lo1 := [(0, .ref (zb g + a0)), (2, .int v2), (3, .int v3), (4, .int (0 : Int32)), (5, .int (0 : Int32))]) [2, 4, 5, 1, 0] rfl ?_
      obtain ⟨q26, e_q26, h⟩ := zbd_of h
      refine r_X12_pull_L32 C0 a0 v2 v3 hT0 zFU (0 : Int32) (0 : Int32) μ2 q26 e_q26 ?_ ?_
      · intro t ht
        have h := zsum_l h _ ht
        exact Option.some.inj h
      · intro o27 hq
        have h := zsum_r h _ hq
        obtain ⟨x20, μ21, e_x20, h_⟩ := zl2_of h
        clear h
        subst e_x20
        have h := h_
        refine z_iload_n C0 dX12_pull_70 rfl 0 rfl ?_
        refine z_iconst (v := (-1 : Int32)) C0 dX12_pull_71 (by decide) ?_
        obtain ⟨x24, e_x24, h⟩ := zl_of h
        refine z_join μ21 82 [] [.int x24] ?_ (fun k_J23 => ?_)
        · have h := Option.some.inj h
          obtain ⟨rfl, rfl⟩ := Prod.mk.inj h
          exact z_iret C0 rfl dX12_pull_82
        · have h := e_x24.symm
          refine z_icmp_ne C0 80 dX12_pull_72 (by decide) (fun c22 => ?_) (fun c22 => ?_)
          · have h := zif_t c22 h
            refine z_bipush (v := (-2 : Int32)) C0 dX12_pull_80 (by decide) ?_
            refine z_sub (lo1 := []) [] rfl ?_
            obtain rfl := h
            exact k_J23
          · have h := zif_f (fun q => q c22) h
            refine z_iload C0 dX12_pull_75 1 rfl ?_
            refine z_goto C0 82 dX12_pull_77 (by decide) ?_
            refine z_sub (lo1 := []) [] rfl ?_
            obtain rfl := h
            exact k_J23
    · refine z_if_eq C0 23 dX12_pull_5 (by decide) (fun c3 => ?_) (fun c3 => ?_)
      · exact absurd hc28 (fun q => q.1 c3)
      · refine z_iload_n C0 dX12_pull_8 rfl 2 rfl ?_
        refine z_iconst (v := (1 : Int32)) C0 dX12_pull_9 (by decide) ?_
        refine z_bipush (v := (12 : Int32)) C0 dX12_pull_10 (by decide) ?_
        refine z_callS (As := [.int v2, .int (1 : Int32), .int (12 : Int32)]) (rest := []) C0 rfl kc_X12_isIn km_RX12_109 (r_X12_isIn (l := l) (g := g) (μ := μ2) v2 (1 : Int32) (12 : Int32) rfl) rfl (Nat.le_of_ble_eq_true rfl) (Nat.le_of_ble_eq_true rfl) (Nat.le_of_ble_eq_true rfl) (Nat.le_of_ble_eq_true rfl) (Nat.le_refl _) rfl rfl dX12_pull_12 ?_
        refine z_if_eq C0 23 dX12_pull_15 (by decide) (fun c4 => ?_) (fun c4 => ?_)
        · exact absurd hc28 (fun q => (fun q => q.1 c4) q.2)
        · refine z_iload_n C0 dX12_pull_18 rfl 3 rfl ?_
          refine z_iconst (v := (-1 : Int32)) C0 dX12_pull_19 (by decide) ?_
          refine z_icmp_ge C0 26 dX12_pull_20 (by decide) (fun c5 => ?_) (fun c5 => ?_)
          · exact k29
          · exact absurd hc28 (fun q => (fun q => c5 q.2) q.2)
  · have h := zif_f hc28 h
    refine z_join μ2 23 [(0, .ref (zb g + a0)), (1, .int v1), (2, .int v2), (3, .int v3)] [] ?_ (fun k30 => ?_)
    · refine z_bipush (v := (-2 : Int32)) C0 dX12_pull_23 (by decide) ?_
      have h := Option.some.inj h
      obtain ⟨rfl, rfl⟩ := Prod.mk.inj h
      exact z_iret C0 rfl dX12_pull_25
    · refine z_if_eq C0 23 dX12_pull_5 (by decide) (fun c3 => ?_) (fun c3 => ?_)
      · exact k30
      · refine z_iload_n C0 dX12_pull_8 rfl 2 rfl ?_
        refine z_iconst (v := (1 : Int32)) C0 dX12_pull_9 (by decide) ?_
        refine z_bipush (v := (12 : Int32)) C0 dX12_pull_10 (by decide) ?_
        refine z_callS (As := [.int v2, .int (1 : Int32), .int (12 : Int32)]) (rest := []) C0 rfl kc_X12_isIn km_RX12_109 (r_X12_isIn (l := l) (g := g) (μ := μ2) v2 (1 : Int32) (12 : Int32) rfl) rfl (Nat.le_of_ble_eq_true rfl) (Nat.le_of_ble_eq_true rfl) (Nat.le_of_ble_eq_true rfl) (Nat.le_of_ble_eq_true rfl) (Nat.le_refl _) rfl rfl dX12_pull_12 ?_
        refine z_if_eq C0 23 dX12_pull_15 (by decide) (fun c4 => ?_) (fun c4 => ?_)
        · exact k30
        · refine z_iload_n C0 dX12_pull_18 rfl 3 rfl ?_
          refine z_iconst (v := (-1 : Int32)) C0 dX12_pull_19 (by decide) ?_
          refine z_icmp_ge C0 26 dX12_pull_20 (by decide) (fun c5 => ?_) (fun c5 => ?_)
          · exact absurd ⟨c3, ⟨c4, c5⟩⟩ hc28
          · exact k30
def f_X12_reach_L84 (a0 : Nat) (v2 : Int32) (v3 : Int32) (v4 : Int32) (x11 : Int32) : Nat → Int32 → zM → Option (zM)
  | 0, _, _ => none
  | n + 1, y22, μ23 =>
    if (144 : Int32) ≤ y22 then
      some μ23
    else
      zg (zin y22 144) <|
      zl (zup μ23 (a0 + 9) (y22.toNatClampNeg) (znb (0 : Int32))) fun μ26 =>
      zl (y22 + (1 : Int32)) fun x27 =>
      f_X12_reach_L84 a0 v2 v3 v4 x11 n x27 μ26
def f_X12_reach_L138 (a0 : Nat) (v2 : Int32) (v3 : Int32) (v4 : Int32) (x11 : Int32) (y34 : Int32) : Nat → Int32 → zM → Option (zM)
  | 0, _, _ => none
  | n + 1, y38, μ39 =>
    if (144 : Int32) ≤ y38 then
      some μ39
    else
      zg (zin y38 144) <|
      zl (zup μ39 (a0 + 10) (y38.toNatClampNeg) (znb (0 : Int32))) fun μ42 =>
      zl (y38 + (1 : Int32)) fun x43 =>
      f_X12_reach_L138 a0 v2 v3 v4 x11 y34 n x43 μ42
def f_X12_reach_L174 (a0 : Nat) (v2 : Int32) (v3 : Int32) (v4 : Int32) (x11 : Int32) (y34 : Int32) (y46 : Int32) : Nat → Int32 → zM → Option (zM)
  | 0, _, _ => none
  | n + 1, y50, μ51 =>
    if (9 : Int32) ≤ y50 then
      some μ51
    else
      zg (zin y46 144) <|
      zbd (zbd (if (μ51 (a0 + 9) (y46.toNatClampNeg)) = 0 then
            some false
          else
            zg (zin y50 9) <|
            if (1000000 : Int32) ≤ (μ51 (a0 + 8) (y50.toNatClampNeg)) then
              some false
            else
              some true) fun b65 =>
        if b65 = true then
          zbd2 (f_X12_cellAfter a0 y46 y50 μ51) fun r67 μ68 =>
          zg (zin r67 144) <|
          zl (zup μ68 (a0 + 10) (r67.toNatClampNeg) (znb (1 : Int32))) fun μ70 =>
          some μ70
        else
          some μ51) fun μ71 =>
      zl (y50 + (1 : Int32)) fun x72 =>
      f_X12_reach_L174 a0 v2 v3 v4 x11 y34 y46 n x72 μ71
def f_X12_reach_L163 (a0 : Nat) (v2 : Int32) (v3 : Int32) (v4 : Int32) (x11 : Int32) (y34 : Int32) : Nat → Int32 → zM → Option (zM)
  | 0, _, _ => none
  | n + 1, y46, μ47 =>
    if (144 : Int32) ≤ y46 then
      some μ47
    else
      zbd (f_X12_reach_L174 a0 v2 v3 v4 x11 y34 y46 zFU (0 : Int32) μ47) fun μ73 =>
      zl (y46 + (1 : Int32)) fun x74 =>
      f_X12_reach_L163 a0 v2 v3 v4 x11 y34 n x74 μ73
def f_X12_reach_L233 (a0 : Nat) (v2 : Int32) (v3 : Int32) (v4 : Int32) (x11 : Int32) (y34 : Int32) : Nat → Int32 → zM → Option (zM)
  | 0, _, _ => none
  | n + 1, y77, μ78 =>
    if (144 : Int32) ≤ y77 then
      some μ78
    else
      zg (zin y77 144) <|
      zl (zup μ78 (a0 + 9) (y77.toNatClampNeg) (znb (μ78 (a0 + 10) (y77.toNatClampNeg)))) fun μ81 =>
      zl (y77 + (1 : Int32)) fun x82 =>
      f_X12_reach_L233 a0 v2 v3 v4 x11 y34 n x82 μ81
def f_X12_reach_L129 (a0 : Nat) (v2 : Int32) (v3 : Int32) (v4 : Int32) (x11 : Int32) : Nat → Int32 → zM → Option (zM)
  | 0, _, _ => none
  | n + 1, y34, μ35 =>
    if v2 ≤ y34 then
      some μ35
    else
      zbd (f_X12_reach_L138 a0 v2 v3 v4 x11 y34 zFU (0 : Int32) μ35) fun μ44 =>
      zbd (f_X12_reach_L163 a0 v2 v3 v4 x11 y34 zFU (0 : Int32) μ44) fun μ75 =>
      zbd (f_X12_reach_L233 a0 v2 v3 v4 x11 y34 zFU (0 : Int32) μ75) fun μ83 =>
      zl (y34 + (1 : Int32)) fun x84 =>
      f_X12_reach_L129 a0 v2 v3 v4 x11 n x84 μ83
def f_X12_reach_L299 (a0 : Nat) (μ94 : zM) : Nat → Int32 → Int32 → Option (Int32)
  | 0, _, _ => none
  | n + 1, y92, y93 =>
    if (144 : Int32) ≤ y93 then
      some y92
    else
      zg (zin y93 144) <|
      zl (if (μ94 (a0 + 9) (y93.toNatClampNeg)) = 0 then
          (0 : Int32)
        else
          (1 : Int32)) fun x99 =>
      zl (y92 + x99) fun x100 =>
      zl (y93 + (1 : Int32)) fun x101 =>
      f_X12_reach_L299 a0 μ94 n x100 x101
def f_X12_reach (a0 : Nat) (v1 : Int32) (v2 : Int32) (v3 : Int32) (v4 : Int32) (μ : zM) : Option (Int32 × zM) :=
  zbd2 (f_X12_isLake a0 v1 μ) fun r1 μ2 =>
  if (¬ (r1 = 0)) ∧ (¬ (f_X12_isIn v2 (0 : Int32) (12 : Int32)) = 0) then
    zl (if (v3 = (-1 : Int32)) ∧ (v4 = (-1 : Int32)) then
        (0 : Int32)
      else
        (1 : Int32)) fun x11 =>
    zbd (if x11 = 0 then
        some false
      else
        zbd (f_X12_of a0 (0 : Int32) μ2) fun r14 =>
        if (f_X12_isIn v3 (0 : Int32) (r14 - (1 : Int32))) = 0 then
          some true
        else
          zbd (f_X12_of a0 (1 : Int32) μ2) fun r17 =>
          if ¬ (f_X12_isIn v4 (0 : Int32) (r17 - (1 : Int32))) = 0 then
            some false
          else
            some true) fun b19 =>
    if b19 = true then
      some ((-1 : Int32), μ2)
    else
      zbd (f_X12_prices a0 (-1 : Int32) μ2) fun μ20 =>
      zbd (f_X12_reach_L84 a0 v2 v3 v4 x11 zFU (0 : Int32) μ20) fun μ28 =>
      zbd (f_X12_of a0 (5 : Int32) μ28) fun r29 =>
      zbd (f_X12_of a0 (4 : Int32) μ28) fun r30 =>
      zg (zin (((12 : Int32) * r29) + r30) 144) <|
      zl (zup μ28 (a0 + 9) ((((12 : Int32) * r29) + r30).toNatClampNeg) (znb (1 : Int32))) fun μ32 =>
      zbd (f_X12_reach_L129 a0 v2 v3 v4 x11 zFU (0 : Int32) μ32) fun μ85 =>
      if x11 = 0 then
        zbd (f_X12_reach_L299 a0 μ85 zFU (0 : Int32) (0 : Int32)) fun x102 =>
        some (x102, μ85)
      else
        zg (zin (((12 : Int32) * v4) + v3) 144) <|
        zl (if (μ85 (a0 + 9) ((((12 : Int32) * v4) + v3).toNatClampNeg)) = 0 then
            (0 : Int32)
          else
            (1 : Int32)) fun x106 =>
        some (x106, μ85)
  else
    some ((-1 : Int32), μ2)
set_option maxHeartbeats 4000000 in
set_option maxRecDepth 100000 in
theorem r_X12_reach_L84 {l : Launch} {g : zL} {p : Program} {e : Env} {s : State} {m : MethodId} {args : Array Value} {below : List Frame} {meth : Method} {c : Code} {Q : State → Prop} (C0 : zC p s m args meth c g cX12_reach yX12_reach 9 (some (.int))) (a0 : Nat) (v2 : Int32) (v3 : Int32) (v4 : Int32) (x11 : Int32) (hU21 : zT zNN zσ1 a0 12) : ∀ (n : Nat) (y22 : Int32) (μ23 : zM) (μ28 : zM), f_X12_reach_L84 a0 v2 v3 v4 x11 n y22 μ23 = some μ28 → Z p l e (zrm 4 0 0) s m args below meth c g Q 9 zNN 0 0 zσ1 μ28 106 [(0, .ref (zb g + a0)), (2, .int v2), (3, .int v3), (4, .int v4), (5, .int x11)] [] → Z p l e (zrm 4 0 0) s m args below meth c g Q 9 zNN 0 0 zσ1 μ23 84 [(0, .ref (zb g + a0)), (2, .int v2), (3, .int v3), (4, .int v4), (5, .int x11), (6, .int y22)] [] := by
  intro n
  induction n with
  | zero =>
    intro y22 μ23 μ28 h kx
    rw [f_X12_reach_L84] at h
    cases h
  | succ n ih =>
    intro y22 μ23 μ28 h kx
    rw [f_X12_reach_L84] at h
    refine z_iload C0 dX12_reach_84 5 rfl ?_
    refine z_sipush (v := (144 : Int32)) C0 dX12_reach_86 (by decide) ?_
    refine z_icmp_ge C0 106 dX12_reach_89 (by decide) (fun c24 => ?_) (fun c24 => ?_)
    · have h := zif_t c24 h
      refine z_sub (lo1 := [(0, .ref (zb g + a0)), (2, .int v2), (3, .int v3), (4, .int v4), (5, .int x11)]) [0, 1, 2, 3, 4] rfl ?_
      obtain rfl := (Option.some.inj h)
      exact kx
    · have h := zif_f c24 h
      refine z_aload_n C0 dX12_reach_92 rfl 0 rfl ?_
      refine z_getr C0 hU21 kf_12_35 zr_12_29 zx_12 (zs_12_29 hU21).1 dX12_reach_93 ?_
      refine z_iload C0 dX12_reach_96 5 rfl ?_
      refine z_iconst (v := (0 : Int32)) C0 dX12_reach_98 (by decide) ?_
      obtain ⟨g25, h⟩ := zg_of h
      obtain ⟨μ26, e_μ26, h⟩ := zl_of h
      refine z_bast C0 (zs_12_29 hU21).2 g25 rfl e_μ26 dX12_reach_99 ?_
      obtain ⟨x27, e_x27, h⟩ := zl_of h
      refine z_iinc (lo1 := [(6, .int x27), (0, .ref (zb g + a0)), (2, .int v2), (3, .int v3), (4, .int v4), (5, .int x11)]) C0 dX12_reach_100 5 rfl (by decide) e_x27.symm (by decide) rfl ?_
      refine z_goto C0 84 dX12_reach_103 (by decide) ?_
      refine z_sub (lo1 := [(0, .ref (zb g + a0)), (2, .int v2), (3, .int v3), (4, .int v4), (5, .int x11), (6, .int x27)]) [1, 2, 3, 4, 5, 0] rfl ?_
      exact ih _ _ _ h kx
set_option maxHeartbeats 4000000 in
set_option maxRecDepth 100000 in
theorem r_X12_reach_L138 {l : Launch} {g : zL} {p : Program} {e : Env} {s : State} {m : MethodId} {args : Array Value} {below : List Frame} {meth : Method} {c : Code} {Q : State → Prop} (C0 : zC p s m args meth c g cX12_reach yX12_reach 9 (some (.int))) (a0 : Nat) (v2 : Int32) (v3 : Int32) (v4 : Int32) (x11 : Int32) (y34 : Int32) (hU37 : zT zNN zσ1 a0 12) : ∀ (n : Nat) (y38 : Int32) (μ39 : zM) (μ44 : zM), f_X12_reach_L138 a0 v2 v3 v4 x11 y34 n y38 μ39 = some μ44 → Z p l e (zrm 4 0 0) s m args below meth c g Q 9 zNN 0 0 zσ1 μ44 160 [(0, .ref (zb g + a0)), (2, .int v2), (3, .int v3), (4, .int v4), (5, .int x11), (6, .int y34)] [] → Z p l e (zrm 4 0 0) s m args below meth c g Q 9 zNN 0 0 zσ1 μ39 138 [(0, .ref (zb g + a0)), (2, .int v2), (3, .int v3), (4, .int v4), (5, .int x11), (6, .int y34), (7, .int y38)] [] := by
  intro n
  induction n with
  | zero =>
    intro y38 μ39 μ44 h kx
    rw [f_X12_reach_L138] at h
    cases h
  | succ n ih =>
    intro y38 μ39 μ44 h kx
    rw [f_X12_reach_L138] at h
    refine z_iload C0 dX12_reach_138 6 rfl ?_
    refine z_sipush (v := (144 : Int32)) C0 dX12_reach_140 (by decide) ?_
    refine z_icmp_ge C0 160 dX12_reach_143 (by decide) (fun c40 => ?_) (fun c40 => ?_)
    · have h := zif_t c40 h
      refine z_sub (lo1 := [(0, .ref (zb g + a0)), (2, .int v2), (3, .int v3), (4, .int v4), (5, .int x11), (6, .int y34)]) [0, 1, 2, 3, 4, 5] rfl ?_
      obtain rfl := (Option.some.inj h)
      exact kx
    · have h := zif_f c40 h
      refine z_aload_n C0 dX12_reach_146 rfl 0 rfl ?_
      refine z_getr C0 hU37 kf_12_38 zr_12_30 zx_12 (zs_12_30 hU37).1 dX12_reach_147 ?_
      refine z_iload C0 dX12_reach_150 6 rfl ?_
      refine z_iconst (v := (0 : Int32)) C0 dX12_reach_152 (by decide) ?_
      obtain ⟨g41, h⟩ := zg_of h
      obtain ⟨μ42, e_μ42, h⟩ := zl_of h
      refine z_bast C0 (zs_12_30 hU37).2 g41 rfl e_μ42 dX12_reach_153 ?_
      obtain ⟨x43, e_x43, h⟩ := zl_of h
      refine z_iinc (lo1 := [(7, .int x43), (0, .ref (zb g + a0)), (2, .int v2), (3, .int v3), (4, .int v4), (5, .int x11), (6, .int y34)]) C0 dX12_reach_154 6 rfl (by decide) e_x43.symm (by decide) rfl ?_
      refine z_goto C0 138 dX12_reach_157 (by decide) ?_
      refine z_sub (lo1 := [(0, .ref (zb g + a0)), (2, .int v2), (3, .int v3), (4, .int v4), (5, .int x11), (6, .int y34), (7, .int x43)]) [1, 2, 3, 4, 5, 6, 0] rfl ?_
      exact ih _ _ _ h kx
set_option maxHeartbeats 4000000 in
set_option maxRecDepth 100000 in
theorem r_X12_reach_L174 {l : Launch} {g : zL} {p : Program} {e : Env} {s : State} {m : MethodId} {args : Array Value} {below : List Frame} {meth : Method} {c : Code} {Q : State → Prop} (C0 : zC p s m args meth c g cX12_reach yX12_reach 9 (some (.int))) (a0 : Nat) (v2 : Int32) (v3 : Int32) (v4 : Int32) (x11 : Int32) (y34 : Int32) (y46 : Int32) (hU49 : zT zNN zσ1 a0 12) : ∀ (n : Nat) (y50 : Int32) (μ51 : zM) (μ73 : zM), f_X12_reach_L174 a0 v2 v3 v4 x11 y34 y46 n y50 μ51 = some μ73 → Z p l e (zrm 4 0 0) s m args below meth c g Q 9 zNN 0 0 zσ1 μ73 224 [(0, .ref (zb g + a0)), (2, .int v2), (3, .int v3), (4, .int v4), (5, .int x11), (6, .int y34), (7, .int y46)] [] → Z p l e (zrm 4 0 0) s m args below meth c g Q 9 zNN 0 0 zσ1 μ51 174 [(0, .ref (zb g + a0)), (2, .int v2), (3, .int v3), (4, .int v4), (5, .int x11), (6, .int y34), (7, .int y46), (8, .int y50)] [] := by
  intro n
  induction n with
  | zero =>
    intro y50 μ51 μ73 h kx
    rw [f_X12_reach_L174] at h
    cases h
  | succ n ih =>
    intro y50 μ51 μ73 h kx
    rw [f_X12_reach_L174] at h
    refine z_iload C0 dX12_reach_174 7 rfl ?_
    refine z_bipush (v := (9 : Int32)) C0 dX12_reach_176 (by decide) ?_
    refine z_icmp_ge C0 224 dX12_reach_178 (by decide) (fun c52 => ?_) (fun c52 => ?_)
    · have h := zif_t c52 h
      refine z_sub (lo1 := [(0, .ref (zb g + a0)), (2, .int v2), (3, .int v3), (4, .int v4), (5, .int x11), (6, .int y34), (7, .int y46)]) [0, 1, 2, 3, 4, 5, 6] rfl ?_
      obtain rfl := (Option.some.inj h)
      exact kx
    · have h := zif_f c52 h
      refine z_aload_n C0 dX12_reach_181 rfl 0 rfl ?_
      refine z_getr C0 hU49 kf_12_35 zr_12_29 zx_12 (zs_12_29 hU49).1 dX12_reach_182 ?_
      refine z_iload C0 dX12_reach_185 6 rfl ?_
      obtain ⟨g60, h⟩ := zg_of h
      refine z_bald C0 (zs_12_29 hU49).2 g60 rfl dX12_reach_187 ?_
      obtain ⟨μ71, e_μ71, h⟩ := zbd_of h
      refine z_join μ71 218 [(0, .ref (zb g + a0)), (2, .int v2), (3, .int v3), (4, .int v4), (5, .int x11), (6, .int y34), (7, .int y46), (8, .int y50)] [] ?_ (fun k_J66 => ?_)
      · obtain ⟨x72, e_x72, h⟩ := zl_of h
        refine z_iinc (lo1 := [(8, .int x72), (0, .ref (zb g + a0)), (2, .int v2), (3, .int v3), (4, .int v4), (5, .int x11), (6, .int y34), (7, .int y46)]) C0 dX12_reach_218 7 rfl (by decide) e_x72.symm (by decide) rfl ?_
        refine z_goto C0 174 dX12_reach_221 (by decide) ?_
        refine z_sub (lo1 := [(0, .ref (zb g + a0)), (2, .int v2), (3, .int v3), (4, .int v4), (5, .int x11), (6, .int y34), (7, .int y46), (8, .int x72)]) [1, 2, 3, 4, 5, 6, 7, 0] rfl ?_
        exact ih _ _ _ h kx
      · have h := e_μ71
        obtain ⟨b65, e_b65, h⟩ := zbd_of h
        refine z_joinb b65 μ51 204 218 [(0, .ref (zb g + a0)), (2, .int v2), (3, .int v3), (4, .int v4), (5, .int x11), (6, .int y34), (7, .int y46), (8, .int y50)] [] (fun z109 => ?_) (fun z109 => ?_) (fun k107 k108 => ?_)
        · have h := zif_t z109 h
          refine z_aload_n C0 dX12_reach_204 rfl 0 rfl ?_
          refine z_getr C0 hU49 kf_12_38 zr_12_30 zx_12 (zs_12_30 hU49).1 dX12_reach_205 ?_
          refine z_aload_n C0 dX12_reach_208 rfl 0 rfl ?_
          refine z_iload C0 dX12_reach_209 6 rfl ?_
          refine z_iload C0 dX12_reach_211 7 rfl ?_
          obtain ⟨r67, μ68, e_r67, h⟩ := zbd2_of h
          refine z_callV (As := [.int y46, .int y50]) (rest := [.ref (zb g + (a0 + 10))]) C0 rfl kc_X12_cellAfter km_RX12_342 (r_X12_cellAfter (l := l) (g := g) a0 y46 y50 μ51 hU49 e_r67) hU49.1 hU49.2.2.1 rfl (by decide) rfl (Nat.le_of_ble_eq_true rfl) (Nat.le_of_ble_eq_true rfl) (Nat.le_of_ble_eq_true rfl) (Nat.le_of_ble_eq_true rfl) (Nat.le_refl _) rfl rfl dX12_reach_213 ?_
          refine z_iconst (v := (1 : Int32)) C0 dX12_reach_216 (by decide) ?_
          obtain ⟨g69, h⟩ := zg_of h
          obtain ⟨μ70, e_μ70, h⟩ := zl_of h
          refine z_bast C0 (zs_12_30 hU49).2 g69 rfl e_μ70 dX12_reach_217 ?_
          obtain rfl := (Option.some.inj h)
          exact k_J66
        · have h := zif_f (fun q => Bool.noConfusion (z109.symm.trans q)) h
          obtain rfl := (Option.some.inj h)
          exact k_J66
        · have h := e_b65
          refine z_if_eq C0 218 dX12_reach_188 (by decide) (fun c61 => ?_) (fun c61 => ?_)
          · have h := zif_t c61 h
            exact k108 (Option.some.inj h).symm
          · have h := zif_f c61 h
            refine z_aload_n C0 dX12_reach_191 rfl 0 rfl ?_
            refine z_getr C0 hU49 kf_12_32 zr_12_28 zx_12 (zs_12_28 hU49).1 dX12_reach_192 ?_
            refine z_iload C0 dX12_reach_195 7 rfl ?_
            obtain ⟨g63, h⟩ := zg_of h
            refine z_iald C0 (zs_12_28 hU49).2 g63 rfl dX12_reach_197 ?_
            refine z_ldcw C0 dX12_reach_198 kk_RX12_335 ?_
            refine z_icmp_ge C0 218 dX12_reach_201 (by decide) (fun c64 => ?_) (fun c64 => ?_)
            · have h := zif_t c64 h
              exact k108 (Option.some.inj h).symm
            · have h := zif_f c64 h
              exact k107 (Option.some.inj h).symm
set_option maxHeartbeats 4000000 in
set_option maxRecDepth 100000 in
theorem r_X12_reach_L163 {l : Launch} {g : zL} {p : Program} {e : Env} {s : State} {m : MethodId} {args : Array Value} {below : List Frame} {meth : Method} {c : Code} {Q : State → Prop} (C0 : zC p s m args meth c g cX12_reach yX12_reach 9 (some (.int))) (a0 : Nat) (v2 : Int32) (v3 : Int32) (v4 : Int32) (x11 : Int32) (y34 : Int32) (hU45 : zT zNN zσ1 a0 12) : ∀ (n : Nat) (y46 : Int32) (μ47 : zM) (μ75 : zM), f_X12_reach_L163 a0 v2 v3 v4 x11 y34 n y46 μ47 = some μ75 → Z p l e (zrm 4 0 0) s m args below meth c g Q 9 zNN 0 0 zσ1 μ75 230 [(0, .ref (zb g + a0)), (2, .int v2), (3, .int v3), (4, .int v4), (5, .int x11), (6, .int y34)] [] → Z p l e (zrm 4 0 0) s m args below meth c g Q 9 zNN 0 0 zσ1 μ47 163 [(0, .ref (zb g + a0)), (2, .int v2), (3, .int v3), (4, .int v4), (5, .int x11), (6, .int y34), (7, .int y46)] [] := by
  intro n
  induction n with
  | zero =>
    intro y46 μ47 μ75 h kx
    rw [f_X12_reach_L163] at h
    cases h
  | succ n ih =>
    intro y46 μ47 μ75 h kx
    rw [f_X12_reach_L163] at h
    refine z_iload C0 dX12_reach_163 6 rfl ?_
    refine z_sipush (v := (144 : Int32)) C0 dX12_reach_165 (by decide) ?_
    refine z_icmp_ge C0 230 dX12_reach_168 (by decide) (fun c48 => ?_) (fun c48 => ?_)
    · have h := zif_t c48 h
      refine z_sub (lo1 := [(0, .ref (zb g + a0)), (2, .int v2), (3, .int v3), (4, .int v4), (5, .int x11), (6, .int y34)]) [0, 1, 2, 3, 4, 5] rfl ?_
      obtain rfl := (Option.some.inj h)
      exact kx
    · have h := zif_f c48 h
      refine z_iconst (v := (0 : Int32)) C0 dX12_reach_171 (by decide) ?_
      refine z_istore (lo1 := [(8, .int (0 : Int32)), (0, .ref (zb g + a0)), (2, .int v2), (3, .int v3), (4, .int v4), (5, .int x11), (6, .int y34), (7, .int y46)]) C0 dX12_reach_172 (by decide) rfl ?_
      refine z_sub (lo1 := [(0, .ref (zb g + a0)), (2, .int v2), (3, .int v3), (4, .int v4), (5, .int x11), (6, .int y34), (7, .int y46), (8, .int (0 : Int32))]) [1, 2, 3, 4, 5, 6, 7, 0] rfl ?_
      obtain ⟨μ73, e_μ73, h⟩ := zbd_of h
      refine r_X12_reach_L174 C0 a0 v2 v3 v4 x11 y34 y46 hU45 zFU (0 : Int32) μ47 μ73 e_μ73 ?_
      obtain ⟨x74, e_x74, h⟩ := zl_of h
      refine z_iinc (lo1 := [(7, .int x74), (0, .ref (zb g + a0)), (2, .int v2), (3, .int v3), (4, .int v4), (5, .int x11), (6, .int y34)]) C0 dX12_reach_224 6 rfl (by decide) e_x74.symm (by decide) rfl ?_
      refine z_goto C0 163 dX12_reach_227 (by decide) ?_
      refine z_sub (lo1 := [(0, .ref (zb g + a0)), (2, .int v2), (3, .int v3), (4, .int v4), (5, .int x11), (6, .int y34), (7, .int x74)]) [1, 2, 3, 4, 5, 6, 0] rfl ?_
      exact ih _ _ _ h kx
set_option maxHeartbeats 4000000 in
set_option maxRecDepth 100000 in
theorem r_X12_reach_L233 {l : Launch} {g : zL} {p : Program} {e : Env} {s : State} {m : MethodId} {args : Array Value} {below : List Frame} {meth : Method} {c : Code} {Q : State → Prop} (C0 : zC p s m args meth c g cX12_reach yX12_reach 9 (some (.int))) (a0 : Nat) (v2 : Int32) (v3 : Int32) (v4 : Int32) (x11 : Int32) (y34 : Int32) (hU76 : zT zNN zσ1 a0 12) : ∀ (n : Nat) (y77 : Int32) (μ78 : zM) (μ83 : zM), f_X12_reach_L233 a0 v2 v3 v4 x11 y34 n y77 μ78 = some μ83 → Z p l e (zrm 4 0 0) s m args below meth c g Q 9 zNN 0 0 zσ1 μ83 261 [(0, .ref (zb g + a0)), (2, .int v2), (3, .int v3), (4, .int v4), (5, .int x11), (6, .int y34)] [] → Z p l e (zrm 4 0 0) s m args below meth c g Q 9 zNN 0 0 zσ1 μ78 233 [(0, .ref (zb g + a0)), (2, .int v2), (3, .int v3), (4, .int v4), (5, .int x11), (6, .int y34), (7, .int y77)] [] := by
  intro n
  induction n with
  | zero =>
    intro y77 μ78 μ83 h kx
    rw [f_X12_reach_L233] at h
    cases h
  | succ n ih =>
    intro y77 μ78 μ83 h kx
    rw [f_X12_reach_L233] at h
    refine z_iload C0 dX12_reach_233 6 rfl ?_
    refine z_sipush (v := (144 : Int32)) C0 dX12_reach_235 (by decide) ?_
    refine z_icmp_ge C0 261 dX12_reach_238 (by decide) (fun c79 => ?_) (fun c79 => ?_)
    · have h := zif_t c79 h
      refine z_sub (lo1 := [(0, .ref (zb g + a0)), (2, .int v2), (3, .int v3), (4, .int v4), (5, .int x11), (6, .int y34)]) [0, 1, 2, 3, 4, 5] rfl ?_
      obtain rfl := (Option.some.inj h)
      exact kx
    · have h := zif_f c79 h
      refine z_aload_n C0 dX12_reach_241 rfl 0 rfl ?_
      refine z_getr C0 hU76 kf_12_35 zr_12_29 zx_12 (zs_12_29 hU76).1 dX12_reach_242 ?_
      refine z_iload C0 dX12_reach_245 6 rfl ?_
      refine z_aload_n C0 dX12_reach_247 rfl 0 rfl ?_
      refine z_getr C0 hU76 kf_12_38 zr_12_30 zx_12 (zs_12_30 hU76).1 dX12_reach_248 ?_
      refine z_iload C0 dX12_reach_251 6 rfl ?_
      obtain ⟨g80, h⟩ := zg_of h
      refine z_bald C0 (zs_12_30 hU76).2 g80 rfl dX12_reach_253 ?_
      obtain ⟨μ81, e_μ81, h⟩ := zl_of h
      refine z_bast C0 (zs_12_29 hU76).2 g80 rfl e_μ81 dX12_reach_254 ?_
      obtain ⟨x82, e_x82, h⟩ := zl_of h
      refine z_iinc (lo1 := [(7, .int x82), (0, .ref (zb g + a0)), (2, .int v2), (3, .int v3), (4, .int v4), (5, .int x11), (6, .int y34)]) C0 dX12_reach_255 6 rfl (by decide) e_x82.symm (by decide) rfl ?_
      refine z_goto C0 233 dX12_reach_258 (by decide) ?_
      refine z_sub (lo1 := [(0, .ref (zb g + a0)), (2, .int v2), (3, .int v3), (4, .int v4), (5, .int x11), (6, .int y34), (7, .int x82)]) [1, 2, 3, 4, 5, 6, 0] rfl ?_
      exact ih _ _ _ h kx
set_option maxHeartbeats 4000000 in
set_option maxRecDepth 100000 in
theorem r_X12_reach_L129 {l : Launch} {g : zL} {p : Program} {e : Env} {s : State} {m : MethodId} {args : Array Value} {below : List Frame} {meth : Method} {c : Code} {Q : State → Prop} (C0 : zC p s m args meth c g cX12_reach yX12_reach 9 (some (.int))) (a0 : Nat) (v2 : Int32) (v3 : Int32) (v4 : Int32) (x11 : Int32) (hU33 : zT zNN zσ1 a0 12) : ∀ (n : Nat) (y34 : Int32) (μ35 : zM) (μ85 : zM), f_X12_reach_L129 a0 v2 v3 v4 x11 n y34 μ35 = some μ85 → Z p l e (zrm 4 0 0) s m args below meth c g Q 9 zNN 0 0 zσ1 μ85 267 [(0, .ref (zb g + a0)), (3, .int v3), (4, .int v4), (5, .int x11)] [] → Z p l e (zrm 4 0 0) s m args below meth c g Q 9 zNN 0 0 zσ1 μ35 129 [(0, .ref (zb g + a0)), (2, .int v2), (3, .int v3), (4, .int v4), (5, .int x11), (6, .int y34)] [] := by
  intro n
  induction n with
  | zero =>
    intro y34 μ35 μ85 h kx
    rw [f_X12_reach_L129] at h
    cases h
  | succ n ih =>
    intro y34 μ35 μ85 h kx
    rw [f_X12_reach_L129] at h
    refine z_iload C0 dX12_reach_129 5 rfl ?_
    refine z_iload_n C0 dX12_reach_131 rfl 1 rfl ?_
    refine z_icmp_ge C0 267 dX12_reach_132 (by decide) (fun c36 => ?_) (fun c36 => ?_)
    · have h := zif_t c36 h
      refine z_sub (lo1 := [(0, .ref (zb g + a0)), (3, .int v3), (4, .int v4), (5, .int x11)]) [0, 2, 3, 4] rfl ?_
      obtain rfl := (Option.some.inj h)
      exact kx
    · have h := zif_f c36 h
      refine z_iconst (v := (0 : Int32)) C0 dX12_reach_135 (by decide) ?_
      refine z_istore (lo1 := [(7, .int (0 : Int32)), (0, .ref (zb g + a0)), (2, .int v2), (3, .int v3), (4, .int v4), (5, .int x11), (6, .int y34)]) C0 dX12_reach_136 (by decide) rfl ?_
      refine z_sub (lo1 := [(0, .ref (zb g + a0)), (2, .int v2), (3, .int v3), (4, .int v4), (5, .int x11), (6, .int y34), (7, .int (0 : Int32))]) [1, 2, 3, 4, 5, 6, 0] rfl ?_
      obtain ⟨μ44, e_μ44, h⟩ := zbd_of h
      refine r_X12_reach_L138 C0 a0 v2 v3 v4 x11 y34 hU33 zFU (0 : Int32) μ35 μ44 e_μ44 ?_
      refine z_iconst (v := (0 : Int32)) C0 dX12_reach_160 (by decide) ?_
      refine z_istore (lo1 := [(7, .int (0 : Int32)), (0, .ref (zb g + a0)), (2, .int v2), (3, .int v3), (4, .int v4), (5, .int x11), (6, .int y34)]) C0 dX12_reach_161 (by decide) rfl ?_
      refine z_sub (lo1 := [(0, .ref (zb g + a0)), (2, .int v2), (3, .int v3), (4, .int v4), (5, .int x11), (6, .int y34), (7, .int (0 : Int32))]) [1, 2, 3, 4, 5, 6, 0] rfl ?_
      obtain ⟨μ75, e_μ75, h⟩ := zbd_of h
      refine r_X12_reach_L163 C0 a0 v2 v3 v4 x11 y34 hU33 zFU (0 : Int32) μ44 μ75 e_μ75 ?_
      refine z_iconst (v := (0 : Int32)) C0 dX12_reach_230 (by decide) ?_
      refine z_istore (lo1 := [(7, .int (0 : Int32)), (0, .ref (zb g + a0)), (2, .int v2), (3, .int v3), (4, .int v4), (5, .int x11), (6, .int y34)]) C0 dX12_reach_231 (by decide) rfl ?_
      refine z_sub (lo1 := [(0, .ref (zb g + a0)), (2, .int v2), (3, .int v3), (4, .int v4), (5, .int x11), (6, .int y34), (7, .int (0 : Int32))]) [1, 2, 3, 4, 5, 6, 0] rfl ?_
      obtain ⟨μ83, e_μ83, h⟩ := zbd_of h
      refine r_X12_reach_L233 C0 a0 v2 v3 v4 x11 y34 hU33 zFU (0 : Int32) μ75 μ83 e_μ83 ?_
      obtain ⟨x84, e_x84, h⟩ := zl_of h
      refine z_iinc (lo1 := [(6, .int x84), (0, .ref (zb g + a0)), (2, .int v2), (3, .int v3), (4, .int v4), (5, .int x11)]) C0 dX12_reach_261 5 rfl (by decide) e_x84.symm (by decide) rfl ?_
      refine z_goto C0 129 dX12_reach_264 (by decide) ?_
      refine z_sub (lo1 := [(0, .ref (zb g + a0)), (2, .int v2), (3, .int v3), (4, .int v4), (5, .int x11), (6, .int x84)]) [1, 2, 3, 4, 5, 0] rfl ?_
      exact ih _ _ _ h kx
set_option maxHeartbeats 4000000 in
set_option maxRecDepth 100000 in
theorem r_X12_reach_L299 {l : Launch} {g : zL} {p : Program} {e : Env} {s : State} {m : MethodId} {args : Array Value} {below : List Frame} {meth : Method} {c : Code} {Q : State → Prop} (C0 : zC p s m args meth c g cX12_reach yX12_reach 9 (some (.int))) (a0 : Nat) (μ94 : zM) (hU91 : zT zNN zσ1 a0 12) : ∀ (n : Nat) (y92 : Int32) (y93 : Int32) (x102 : Int32), f_X12_reach_L299 a0 μ94 n y92 y93 = some x102 → Z p l e (zrm 4 0 0) s m args below meth c g Q 9 zNN 0 0 zσ1 μ94 333 [(6, .int x102)] [] → Z p l e (zrm 4 0 0) s m args below meth c g Q 9 zNN 0 0 zσ1 μ94 299 [(0, .ref (zb g + a0)), (6, .int y92), (7, .int y93)] [] := by
  intro n
  induction n with
  | zero =>
    intro y92 y93 x102 h kx
    rw [f_X12_reach_L299] at h
    cases h
  | succ n ih =>
    intro y92 y93 x102 h kx
    rw [f_X12_reach_L299] at h
    refine z_iload C0 dX12_reach_299 2 rfl ?_
    refine z_sipush (v := (144 : Int32)) C0 dX12_reach_301 (by decide) ?_
    refine z_icmp_ge C0 333 dX12_reach_304 (by decide) (fun c95 => ?_) (fun c95 => ?_)
    · have h := zif_t c95 h
      refine z_sub (lo1 := [(6, .int y92)]) [1] rfl ?_
      obtain rfl := (Option.some.inj h)
      exact kx
    · have h := zif_f c95 h
      refine z_iload C0 dX12_reach_307 1 rfl ?_
      refine z_aload_n C0 dX12_reach_309 rfl 0 rfl ?_
      refine z_getr C0 hU91 kf_12_35 zr_12_29 zx_12 (zs_12_29 hU91).1 dX12_reach_310 ?_
      refine z_iload C0 dX12_reach_313 2 rfl ?_
      obtain ⟨g96, h⟩ := zg_of h
      refine z_bald C0 (zs_12_29 hU91).2 g96 rfl dX12_reach_315 ?_
      obtain ⟨x99, e_x99, h⟩ := zl_of h
      refine z_join μ94 324 [(0, .ref (zb g + a0)), (7, .int y93)] [.int x99, .int y92] ?_ (fun k_J98 => ?_)
      · refine z_iadd C0 dX12_reach_324 ?_
        obtain ⟨x100, e_x100, h⟩ := zl_of h
        refine z_nm e_x100 ?_
        refine z_istore (lo1 := [(6, .int x100), (0, .ref (zb g + a0)), (7, .int y93)]) C0 dX12_reach_325 (by decide) rfl ?_
        obtain ⟨x101, e_x101, h⟩ := zl_of h
        refine z_iinc (lo1 := [(7, .int x101), (6, .int x100), (0, .ref (zb g + a0))]) C0 dX12_reach_327 2 rfl (by decide) e_x101.symm (by decide) rfl ?_
        refine z_goto C0 299 dX12_reach_330 (by decide) ?_
        refine z_sub (lo1 := [(0, .ref (zb g + a0)), (6, .int x100), (7, .int x101)]) [2, 1, 0] rfl ?_
        exact ih _ _ _ h kx
      · have h := e_x99.symm
        refine z_if_eq C0 323 dX12_reach_316 (by decide) (fun c97 => ?_) (fun c97 => ?_)
        · have h := zif_t c97 h
          refine z_iconst (v := (0 : Int32)) C0 dX12_reach_323 (by decide) ?_
          refine z_sub (lo1 := [(0, .ref (zb g + a0)), (7, .int y93)]) [0, 2] rfl ?_
          obtain rfl := h
          exact k_J98
        · have h := zif_f c97 h
          refine z_iconst (v := (1 : Int32)) C0 dX12_reach_319 (by decide) ?_
          refine z_goto C0 324 dX12_reach_320 (by decide) ?_
          refine z_sub (lo1 := [(0, .ref (zb g + a0)), (7, .int y93)]) [0, 2] rfl ?_
          obtain rfl := h
          exact k_J98
set_option maxHeartbeats 4000000 in
set_option maxRecDepth 100000 in
theorem r_X12_reach {l : Launch} {g : zL} (a0 : Nat) (v1 : Int32) (v2 : Int32) (v3 : Int32) (v4 : Int32) (μ : zM) (hT0 : zT zNN zσ1 a0 12) {rv : Int32} {μr : zM} (h : f_X12_reach a0 v1 v2 v3 v4 μ = some (rv, μr)) : zMet l g yX12_reach cX12_reach 9 (some (.int)) 4 0 0 zNN zNN zσ1 zσ1 [.ref (zb g + a0), .int v1, .int v2, .int v3, .int v4] μ (some (.int rv)) μr := by
  refine zMet.of (by decide +kernel) (Nat.le_of_ble_eq_true rfl) ?_
  intro p e s m args below meth c C0
  refine z_loc (lo1 := [(0, .ref (zb g + a0)), (1, .int v1), (2, .int v2), (3, .int v3), (4, .int v4)]) rfl ?_
  unfold f_X12_reach at h
  refine z_aload_n C0 dX12_reach_0 rfl 0 rfl ?_
  refine z_iload_n C0 dX12_reach_1 rfl 1 rfl ?_
  obtain ⟨r1, μ2, e_r1, h⟩ := zbd2_of h
  refine z_callV (As := [.int v1]) (rest := []) C0 rfl kc_X12_isLake km_RX12_186 (r_X12_isLake (l := l) (g := g) a0 v1 μ hT0 e_r1) hT0.1 hT0.2.2.1 rfl (by decide) rfl (Nat.le_of_ble_eq_true rfl) (Nat.le_of_ble_eq_true rfl) (Nat.le_of_ble_eq_true rfl) (Nat.le_of_ble_eq_true rfl) (Nat.le_refl _) rfl rfl dX12_reach_2 ?_
  by_cases hc110 : (¬ (r1 = 0)) ∧ (¬ (f_X12_isIn v2 (0 : Int32) (12 : Int32)) = 0)
  · have h := zif_t hc110 h
    refine z_join μ2 20 [(0, .ref (zb g + a0)), (1, .int v1), (2, .int v2), (3, .int v3), (4, .int v4)] [] ?_ (fun k111 => ?_)
    · refine z_iload_n C0 dX12_reach_20 rfl 3 rfl ?_
      refine z_iconst (v := (-1 : Int32)) C0 dX12_reach_21 (by decide) ?_
      obtain ⟨x11, e_x11, h⟩ := zl_of h
      refine z_join μ2 36 [(0, .ref (zb g + a0)), (2, .int v2), (3, .int v3), (4, .int v4)] [.int x11] ?_ (fun k_J10 => ?_)
      · refine z_istore (lo1 := [(5, .int x11), (0, .ref (zb g + a0)), (2, .int v2), (3, .int v3), (4, .int v4)]) C0 dX12_reach_36 (by decide) rfl ?_
        refine z_iload C0 dX12_reach_38 0 rfl ?_
        obtain ⟨b19, e_b19, h⟩ := zbd_of h
        refine z_joinb b19 μ2 74 76 [(5, .int x11), (0, .ref (zb g + a0)), (2, .int v2), (3, .int v3), (4, .int v4)] [] (fun z114 => ?_) (fun z114 => ?_) (fun k112 k113 => ?_)
        · have h := zif_t z114 h
          refine z_iconst (v := (-1 : Int32)) C0 dX12_reach_74 (by decide) ?_
          have h := Option.some.inj h
          obtain ⟨rfl, rfl⟩ := Prod.mk.inj h
          exact z_iret C0 rfl dX12_reach_75
        · have h := zif_f (fun q => Bool.noConfusion (z114.symm.trans q)) h
          refine z_aload_n C0 dX12_reach_76 rfl 1 rfl ?_
          refine z_iconst (v := (-1 : Int32)) C0 dX12_reach_77 (by decide) ?_
          obtain ⟨μ20, e_μ20, h⟩ := zbd_of h
          refine z_callV (As := [.int (-1 : Int32)]) (rest := []) C0 rfl kc_X12_prices km_RX12_339 (r_X12_prices (l := l) (g := g) a0 (-1 : Int32) μ2 hT0 e_μ20) hT0.1 hT0.2.2.1 rfl (by decide) rfl (Nat.le_of_ble_eq_true rfl) (Nat.le_of_ble_eq_true rfl) (Nat.le_of_ble_eq_true rfl) (Nat.le_of_ble_eq_true rfl) (Nat.le_refl _) rfl rfl dX12_reach_78 ?_
          refine z_iconst (v := (0 : Int32)) C0 dX12_reach_81 (by decide) ?_
          refine z_istore (lo1 := [(6, .int (0 : Int32)), (5, .int x11), (0, .ref (zb g + a0)), (2, .int v2), (3, .int v3), (4, .int v4)]) C0 dX12_reach_82 (by decide) rfl ?_
          refine z_sub (lo1 := [(0, .ref (zb g + a0)), (2, .int v2), (3, .int v3), (4, .int v4), (5, .int x11), (6, .int (0 : Int32))]) [2, 3, 4, 5, 1, 0] rfl ?_
          obtain ⟨μ28, e_μ28, h⟩ := zbd_of h
          refine r_X12_reach_L84 C0 a0 v2 v3 v4 x11 hT0 zFU (0 : Int32) μ20 μ28 e_μ28 ?_
          refine z_aload_n C0 dX12_reach_106 rfl 0 rfl ?_
          refine z_getr C0 hT0 kf_12_35 zr_12_29 zx_12 (zs_12_29 hT0).1 dX12_reach_107 ?_
          refine z_bipush (v := (12 : Int32)) C0 dX12_reach_110 (by decide) ?_
          refine z_aload_n C0 dX12_reach_112 rfl 0 rfl ?_
          refine z_iconst (v := (5 : Int32)) C0 dX12_reach_113 (by decide) ?_
          obtain ⟨r29, e_r29, h⟩ := zbd_of h
          refine z_callV (As := [.int (5 : Int32)]) (rest := [.int (12 : Int32), .ref (zb g + (a0 + 9))]) C0 rfl kc_X12_of km_RX12_180 (r_X12_of (l := l) (g := g) a0 (5 : Int32) μ28 hT0 e_r29) hT0.1 hT0.2.2.1 rfl (by decide) rfl (Nat.le_of_ble_eq_true rfl) (Nat.le_of_ble_eq_true rfl) (Nat.le_of_ble_eq_true rfl) (Nat.le_of_ble_eq_true rfl) (Nat.le_refl _) rfl rfl dX12_reach_114 ?_
          refine z_imul C0 dX12_reach_117 ?_
          refine z_aload_n C0 dX12_reach_118 rfl 0 rfl ?_
          refine z_iconst (v := (4 : Int32)) C0 dX12_reach_119 (by decide) ?_
          obtain ⟨r30, e_r30, h⟩ := zbd_of h
          refine z_callV (As := [.int (4 : Int32)]) (rest := [.int ((12 : Int32) * r29), .ref (zb g + (a0 + 9))]) C0 rfl kc_X12_of km_RX12_180 (r_X12_of (l := l) (g := g) a0 (4 : Int32) μ28 hT0 e_r30) hT0.1 hT0.2.2.1 rfl (by decide) rfl (Nat.le_of_ble_eq_true rfl) (Nat.le_of_ble_eq_true rfl) (Nat.le_of_ble_eq_true rfl) (Nat.le_of_ble_eq_true rfl) (Nat.le_refl _) rfl rfl dX12_reach_120 ?_
          refine z_iadd C0 dX12_reach_123 ?_
          refine z_iconst (v := (1 : Int32)) C0 dX12_reach_124 (by decide) ?_
          obtain ⟨g31, h⟩ := zg_of h
          obtain ⟨μ32, e_μ32, h⟩ := zl_of h
          refine z_bast C0 (zs_12_29 hT0).2 g31 rfl e_μ32 dX12_reach_125 ?_
          refine z_iconst (v := (0 : Int32)) C0 dX12_reach_126 (by decide) ?_
          refine z_istore (lo1 := [(6, .int (0 : Int32)), (0, .ref (zb g + a0)), (2, .int v2), (3, .int v3), (4, .int v4), (5, .int x11)]) C0 dX12_reach_127 (by decide) rfl ?_
          refine z_sub (lo1 := [(0, .ref (zb g + a0)), (2, .int v2), (3, .int v3), (4, .int v4), (5, .int x11), (6, .int (0 : Int32))]) [1, 2, 3, 4, 5, 0] rfl ?_
          obtain ⟨μ85, e_μ85, h⟩ := zbd_of h
          refine r_X12_reach_L129 C0 a0 v2 v3 v4 x11 hT0 zFU (0 : Int32) μ32 μ85 e_μ85 ?_
          refine z_iload C0 dX12_reach_267 3 rfl ?_
          refine z_if_eq C0 293 dX12_reach_269 (by decide) (fun c86 => ?_) (fun c86 => ?_)
          · have h := zif_t c86 h
            refine z_iconst (v := (0 : Int32)) C0 dX12_reach_293 (by decide) ?_
            refine z_istore (lo1 := [(6, .int (0 : Int32)), (0, .ref (zb g + a0)), (3, .int v3), (4, .int v4), (5, .int x11)]) C0 dX12_reach_294 (by decide) rfl ?_
            refine z_iconst (v := (0 : Int32)) C0 dX12_reach_296 (by decide) ?_
            refine z_istore (lo1 := [(7, .int (0 : Int32)), (6, .int (0 : Int32)), (0, .ref (zb g + a0)), (3, .int v3), (4, .int v4), (5, .int x11)]) C0 dX12_reach_297 (by decide) rfl ?_
            refine z_sub (lo1 := [(0, .ref (zb g + a0)), (6, .int (0 : Int32)), (7, .int (0 : Int32))]) [2, 1, 0] rfl ?_
            obtain ⟨x102, e_x102, h⟩ := zbd_of h
            refine r_X12_reach_L299 C0 a0 μ85 hT0 zFU (0 : Int32) (0 : Int32) x102 e_x102 ?_
            refine z_iload C0 dX12_reach_333 0 rfl ?_
            have h := Option.some.inj h
            obtain ⟨rfl, rfl⟩ := Prod.mk.inj h
            exact z_iret C0 rfl dX12_reach_335
          · have h := zif_f c86 h
            refine z_aload_n C0 dX12_reach_272 rfl 0 rfl ?_
            refine z_getr C0 hT0 kf_12_35 zr_12_29 zx_12 (zs_12_29 hT0).1 dX12_reach_273 ?_
            refine z_bipush (v := (12 : Int32)) C0 dX12_reach_276 (by decide) ?_
            refine z_iload C0 dX12_reach_278 2 rfl ?_
            refine z_imul C0 dX12_reach_280 ?_
            refine z_iload_n C0 dX12_reach_281 rfl 1 rfl ?_
            refine z_iadd C0 dX12_reach_282 ?_
            obtain ⟨g103, h⟩ := zg_of h
            refine z_bald C0 (zs_12_29 hT0).2 g103 rfl dX12_reach_283 ?_
            obtain ⟨x106, e_x106, h⟩ := zl_of h
            refine z_join μ85 292 [] [.int x106] ?_ (fun k_J105 => ?_)
            · have h := Option.some.inj h
              obtain ⟨rfl, rfl⟩ := Prod.mk.inj h
              exact z_iret C0 rfl dX12_reach_292
            · have h := e_x106.symm
              refine z_if_eq C0 291 dX12_reach_284 (by decide) (fun c104 => ?_) (fun c104 => ?_)
              · have h := zif_t c104 h
                refine z_iconst (v := (0 : Int32)) C0 dX12_reach_291 (by decide) ?_
                refine z_sub (lo1 := []) [] rfl ?_
                obtain rfl := h
                exact k_J105
              · have h := zif_f c104 h
                refine z_iconst (v := (1 : Int32)) C0 dX12_reach_287 (by decide) ?_
                refine z_goto C0 292 dX12_reach_288 (by decide) ?_
                refine z_sub (lo1 := []) [] rfl ?_
                obtain rfl := h
                exact k_J105
        · have h := e_b19
          refine z_if_eq C0 76 dX12_reach_40 (by decide) (fun c12 => ?_) (fun c12 => ?_)
          · have h := zif_t c12 h
            exact k113 (Option.some.inj h).symm
          · have h := zif_f c12 h
            refine z_iload_n C0 dX12_reach_43 rfl 3 rfl ?_
            refine z_iconst (v := (0 : Int32)) C0 dX12_reach_44 (by decide) ?_
            refine z_aload_n C0 dX12_reach_45 rfl 1 rfl ?_
            refine z_iconst (v := (0 : Int32)) C0 dX12_reach_46 (by decide) ?_
            obtain ⟨r14, e_r14, h⟩ := zbd_of h
            refine z_callV (As := [.int (0 : Int32)]) (rest := [.int (0 : Int32), .int v3]) C0 rfl kc_X12_of km_RX12_180 (r_X12_of (l := l) (g := g) a0 (0 : Int32) μ2 hT0 e_r14) hT0.1 hT0.2.2.1 rfl (by decide) rfl (Nat.le_of_ble_eq_true rfl) (Nat.le_of_ble_eq_true rfl) (Nat.le_of_ble_eq_true rfl) (Nat.le_of_ble_eq_true rfl) (Nat.le_refl _) rfl rfl dX12_reach_47 ?_
            refine z_iconst (v := (1 : Int32)) C0 dX12_reach_50 (by decide) ?_
            refine z_isub C0 dX12_reach_51 ?_
            refine z_callS (As := [.int v3, .int (0 : Int32), .int (r14 - (1 : Int32))]) (rest := []) C0 rfl kc_X12_isIn km_RX12_109 (r_X12_isIn (l := l) (g := g) (μ := μ2) v3 (0 : Int32) (r14 - (1 : Int32)) rfl) rfl (Nat.le_of_ble_eq_true rfl) (Nat.le_of_ble_eq_true rfl) (Nat.le_of_ble_eq_true rfl) (Nat.le_of_ble_eq_true rfl) (Nat.le_refl _) rfl rfl dX12_reach_52 ?_
            refine z_if_eq C0 74 dX12_reach_55 (by decide) (fun c15 => ?_) (fun c15 => ?_)
            · have h := zif_t c15 h
              exact k112 (Option.some.inj h).symm
            · have h := zif_f c15 h
              refine z_iload C0 dX12_reach_58 4 rfl ?_
              refine z_iconst (v := (0 : Int32)) C0 dX12_reach_60 (by decide) ?_
              refine z_aload_n C0 dX12_reach_61 rfl 1 rfl ?_
              refine z_iconst (v := (1 : Int32)) C0 dX12_reach_62 (by decide) ?_
              obtain ⟨r17, e_r17, h⟩ := zbd_of h
              refine z_callV (As := [.int (1 : Int32)]) (rest := [.int (0 : Int32), .int v4]) C0 rfl kc_X12_of km_RX12_180 (r_X12_of (l := l) (g := g) a0 (1 : Int32) μ2 hT0 e_r17) hT0.1 hT0.2.2.1 rfl (by decide) rfl (Nat.le_of_ble_eq_true rfl) (Nat.le_of_ble_eq_true rfl) (Nat.le_of_ble_eq_true rfl) (Nat.le_of_ble_eq_true rfl) (Nat.le_refl _) rfl rfl dX12_reach_63 ?_
              refine z_iconst (v := (1 : Int32)) C0 dX12_reach_66 (by decide) ?_
              refine z_isub C0 dX12_reach_67 ?_
              refine z_callS (As := [.int v4, .int (0 : Int32), .int (r17 - (1 : Int32))]) (rest := []) C0 rfl kc_X12_isIn km_RX12_109 (r_X12_isIn (l := l) (g := g) (μ := μ2) v4 (0 : Int32) (r17 - (1 : Int32)) rfl) rfl (Nat.le_of_ble_eq_true rfl) (Nat.le_of_ble_eq_true rfl) (Nat.le_of_ble_eq_true rfl) (Nat.le_of_ble_eq_true rfl) (Nat.le_refl _) rfl rfl dX12_reach_68 ?_
              refine z_if_ne C0 76 dX12_reach_71 (by decide) (fun c18 => ?_) (fun c18 => ?_)
              · have h := zif_t c18 h
                exact k113 (Option.some.inj h).symm
              · have h := zif_f (fun q => q c18) h
                exact k112 (Option.some.inj h).symm
      · have h := e_x11.symm
        by_cases hc115 : (v3 = (-1 : Int32)) ∧ (v4 = (-1 : Int32))
        · have h := zif_t hc115 h
          refine z_join μ2 35 [(0, .ref (zb g + a0)), (1, .int v1), (2, .int v2), (3, .int v3), (4, .int v4)] [] ?_ (fun k116 => ?_)
          · refine z_iconst (v := (0 : Int32)) C0 dX12_reach_35 (by decide) ?_
            refine z_sub (lo1 := [(0, .ref (zb g + a0)), (2, .int v2), (3, .int v3), (4, .int v4)]) [0, 2, 3, 4] rfl ?_
            obtain rfl := h
            exact k_J10
          · refine z_icmp_ne C0 31 dX12_reach_22 (by decide) (fun c8 => ?_) (fun c8 => ?_)
            · exact absurd hc115 (fun q => c8 q.1)
            · refine z_iload C0 dX12_reach_25 4 rfl ?_
              refine z_iconst (v := (-1 : Int32)) C0 dX12_reach_27 (by decide) ?_
              refine z_icmp_eq C0 35 dX12_reach_28 (by decide) (fun c9 => ?_) (fun c9 => ?_)
              · exact k116
              · exact absurd hc115 (fun q => c9 q.2)
        · have h := zif_f hc115 h
          refine z_join μ2 31 [(0, .ref (zb g + a0)), (1, .int v1), (2, .int v2), (3, .int v3), (4, .int v4)] [] ?_ (fun k117 => ?_)
          · refine z_iconst (v := (1 : Int32)) C0 dX12_reach_31 (by decide) ?_
            refine z_goto C0 36 dX12_reach_32 (by decide) ?_
            refine z_sub (lo1 := [(0, .ref (zb g + a0)), (2, .int v2), (3, .int v3), (4, .int v4)]) [0, 2, 3, 4] rfl ?_
            obtain rfl := h
            exact k_J10
          · refine z_icmp_ne C0 31 dX12_reach_22 (by decide) (fun c8 => ?_) (fun c8 => ?_)
            · exact k117
            · refine z_iload C0 dX12_reach_25 4 rfl ?_
              refine z_iconst (v := (-1 : Int32)) C0 dX12_reach_27 (by decide) ?_
              refine z_icmp_eq C0 35 dX12_reach_28 (by decide) (fun c9 => ?_) (fun c9 => ?_)
              · exact absurd ⟨c8, c9⟩ hc115
              · exact k117
    · refine z_if_eq C0 18 dX12_reach_5 (by decide) (fun c3 => ?_) (fun c3 => ?_)
      · exact absurd hc110 (fun q => q.1 c3)
      · refine z_iload_n C0 dX12_reach_8 rfl 2 rfl ?_
        refine z_iconst (v := (0 : Int32)) C0 dX12_reach_9 (by decide) ?_
        refine z_bipush (v := (12 : Int32)) C0 dX12_reach_10 (by decide) ?_
        refine z_callS (As := [.int v2, .int (0 : Int32), .int (12 : Int32)]) (rest := []) C0 rfl kc_X12_isIn km_RX12_109 (r_X12_isIn (l := l) (g := g) (μ := μ2) v2 (0 : Int32) (12 : Int32) rfl) rfl (Nat.le_of_ble_eq_true rfl) (Nat.le_of_ble_eq_true rfl) (Nat.le_of_ble_eq_true rfl) (Nat.le_of_ble_eq_true rfl) (Nat.le_refl _) rfl rfl dX12_reach_12 ?_
        refine z_if_ne C0 20 dX12_reach_15 (by decide) (fun c7 => ?_) (fun c7 => ?_)
        · exact k111
        · exact absurd hc110 (fun q => (fun q => q c7) q.2)
  · have h := zif_f hc110 h
    refine z_join μ2 18 [(0, .ref (zb g + a0)), (1, .int v1), (2, .int v2), (3, .int v3), (4, .int v4)] [] ?_ (fun k118 => ?_)
    · refine z_iconst (v := (-1 : Int32)) C0 dX12_reach_18 (by decide) ?_
      have h := Option.some.inj h
      obtain ⟨rfl, rfl⟩ := Prod.mk.inj h
      exact z_iret C0 rfl dX12_reach_19
    · refine z_if_eq C0 18 dX12_reach_5 (by decide) (fun c3 => ?_) (fun c3 => ?_)
      · exact k118
      · refine z_iload_n C0 dX12_reach_8 rfl 2 rfl ?_
        refine z_iconst (v := (0 : Int32)) C0 dX12_reach_9 (by decide) ?_
        refine z_bipush (v := (12 : Int32)) C0 dX12_reach_10 (by decide) ?_
        refine z_callS (As := [.int v2, .int (0 : Int32), .int (12 : Int32)]) (rest := []) C0 rfl kc_X12_isIn km_RX12_109 (r_X12_isIn (l := l) (g := g) (μ := μ2) v2 (0 : Int32) (12 : Int32) rfl) rfl (Nat.le_of_ble_eq_true rfl) (Nat.le_of_ble_eq_true rfl) (Nat.le_of_ble_eq_true rfl) (Nat.le_of_ble_eq_true rfl) (Nat.le_refl _) rfl rfl dX12_reach_12 ?_
        refine z_if_ne C0 20 dX12_reach_15 (by decide) (fun c7 => ?_) (fun c7 => ?_)
        · exact absurd ⟨c3, c7⟩ hc110
        · exact k118
def f_X12_spreads_L2 (a0 : Nat) (v1 : Int32) : Nat → Int32 → zM → Option (zM)
  | 0, _, _ => none
  | n + 1, y2, μ3 =>
    if (576 : Int32) ≤ y2 then
      some μ3
    else
      zg (zin y2 576) <|
      zl (zup μ3 (a0 + 11) (y2.toNatClampNeg) (1000000 : Int32)) fun μ6 =>
      zl (y2 + (1 : Int32)) fun x7 =>
      f_X12_spreads_L2 a0 v1 n x7 μ6
def f_X12_spreads_L76 (a0 : Nat) (v1 : Int32) (y21 : Int32) : Nat → Int32 → Int32 → zM → Option (Int32 × zM)
  | 0, _, _, _ => none
  | n + 1, y25, y26, μ27 =>
    zbd (if (9 : Int32) ≤ y26 then
        some false
      else
        zg (zin y21 576) <|
        if (1000000 : Int32) ≤ (μ27 (a0 + 11) (y21.toNatClampNeg)) then
          some false
        else
          some true) fun b39 =>
    if b39 = true then
      zg (zin y26 9) <|
      zbd2 (if (μ27 (a0 + 8) (y26.toNatClampNeg)) < (1000000 : Int32) then
          zbd2 (f_X12_cellAfter a0 (y21 / (4 : Int32)) y26 μ27) fun r43 μ44 =>
          zbd (f_X12_metAt a0 r43 μ44) fun r45 =>
          zl (((4 : Int32) * r43) + ((y21 % (4 : Int32)) ||| r45)) fun x46 =>
          zg (zin y21 576) <|
          zl (if v1 = 0 then
              (μ44 (a0 + 8) (y26.toNatClampNeg))
            else
              (1 : Int32)) fun x50 =>
          zl ((μ44 (a0 + 11) (y21.toNatClampNeg)) + x50) fun x51 =>
          zbd (zbd (if ¬ y25 = 0 then
                some false
              else
                zg (zin x46 576) <|
                if (μ44 (a0 + 11) (x46.toNatClampNeg)) ≤ x51 then
                  some true
                else
                  some false) fun b56 =>
            if b56 = true then
              some (0 : Int32)
            else
              some (1 : Int32)) fun x58 =>
          zg (zin x46 576) <|
          zl (if (μ44 (a0 + 11) (x46.toNatClampNeg)) ≤ x51 then
              (μ44 (a0 + 11) (x46.toNatClampNeg))
            else
              x51) fun x62 =>
          zl (zup μ44 (a0 + 11) (x46.toNatClampNeg) x62) fun μ63 =>
          some (x58, μ63)
        else
          some (y25, μ27)) fun x64 μ65 =>
      zl (y26 + (1 : Int32)) fun x66 =>
      f_X12_spreads_L76 a0 v1 y21 n x64 x66 μ65
    else
      some (y25, μ27)
def f_X12_spreads_L65 (a0 : Nat) (v1 : Int32) : Nat → Int32 → Int32 → zM → Option (Int32 × zM)
  | 0, _, _, _ => none
  | n + 1, y20, y21, μ22 =>
    if (576 : Int32) ≤ y21 then
      some (y20, μ22)
    else
      zbd2 (f_X12_spreads_L76 a0 v1 y21 zFU y20 (0 : Int32) μ22) fun x67 μ68 =>
      zl (y21 + (1 : Int32)) fun x69 =>
      f_X12_spreads_L65 a0 v1 n x67 x69 μ68
def f_X12_spreads_L56 (a0 : Nat) (v1 : Int32) : Nat → Int32 → zM → Option (zM)
  | 0, _, _ => none
  | n + 1, y16, μ17 =>
    if y16 = 0 then
      some μ17
    else
      zbd2 (f_X12_spreads_L65 a0 v1 zFU (0 : Int32) (0 : Int32) μ17) fun x70 μ71 =>
      f_X12_spreads_L56 a0 v1 n x70 μ71
def f_X12_spreads (a0 : Nat) (v1 : Int32) (μ : zM) : Option (zM) :=
  zbd (f_X12_spreads_L2 a0 v1 zFU (0 : Int32) μ) fun μ8 =>
  zbd (f_X12_of a0 (5 : Int32) μ8) fun r9 =>
  zbd (f_X12_of a0 (4 : Int32) μ8) fun r10 =>
  zl (((12 : Int32) * r9) + r10) fun x11 =>
  zbd (f_X12_metAt a0 x11 μ8) fun r12 =>
  zg (zin (((4 : Int32) * x11) + r12) 576) <|
  zl (zup μ8 (a0 + 11) ((((4 : Int32) * x11) + r12).toNatClampNeg) (0 : Int32)) fun μ14 =>
  zbd (f_X12_spreads_L56 a0 v1 zFU (1 : Int32) μ14) fun μ72 =>
  some μ72
set_option maxHeartbeats 4000000 in
set_option maxRecDepth 100000 in
theorem r_X12_spreads_L2 {l : Launch} {g : zL} {p : Program} {e : Env} {s : State} {m : MethodId} {args : Array Value} {below : List Frame} {meth : Method} {c : Code} {Q : State → Prop} (C0 : zC p s m args meth c g cX12_spreads yX12_spreads 9 none) (a0 : Nat) (v1 : Int32) (hU1 : zT zNN zσ1 a0 12) : ∀ (n : Nat) (y2 : Int32) (μ3 : zM) (μ8 : zM), f_X12_spreads_L2 a0 v1 n y2 μ3 = some μ8 → Z p l e (zrm 4 0 0) s m args below meth c g Q 9 zNN 0 0 zσ1 μ8 24 [(0, .ref (zb g + a0)), (1, .int v1)] [] → Z p l e (zrm 4 0 0) s m args below meth c g Q 9 zNN 0 0 zσ1 μ3 2 [(0, .ref (zb g + a0)), (1, .int v1), (2, .int y2)] [] := by
  intro n
  induction n with
  | zero =>
    intro y2 μ3 μ8 h kx
    rw [f_X12_spreads_L2] at h
    cases h
  | succ n ih =>
    intro y2 μ3 μ8 h kx
    rw [f_X12_spreads_L2] at h
    refine z_iload_n C0 dX12_spreads_2 rfl 2 rfl ?_
    refine z_sipush (v := (576 : Int32)) C0 dX12_spreads_3 (by decide) ?_
    refine z_icmp_ge C0 24 dX12_spreads_6 (by decide) (fun c4 => ?_) (fun c4 => ?_)
    · have h := zif_t c4 h
      refine z_sub (lo1 := [(0, .ref (zb g + a0)), (1, .int v1)]) [0, 1] rfl ?_
      obtain rfl := (Option.some.inj h)
      exact kx
    · have h := zif_f c4 h
      refine z_aload_n C0 dX12_spreads_9 rfl 0 rfl ?_
      refine z_getr C0 hU1 kf_12_41 zr_12_31 zx_12 (zs_12_31 hU1).1 dX12_spreads_10 ?_
      refine z_iload_n C0 dX12_spreads_13 rfl 2 rfl ?_
      refine z_ldcw C0 dX12_spreads_14 kk_RX12_335 ?_
      obtain ⟨g5, h⟩ := zg_of h
      obtain ⟨μ6, e_μ6, h⟩ := zl_of h
      refine z_iast C0 (zs_12_31 hU1).2 g5 rfl e_μ6 dX12_spreads_17 ?_
      obtain ⟨x7, e_x7, h⟩ := zl_of h
      refine z_iinc (lo1 := [(2, .int x7), (0, .ref (zb g + a0)), (1, .int v1)]) C0 dX12_spreads_18 2 rfl (by decide) e_x7.symm (by decide) rfl ?_
      refine z_goto C0 2 dX12_spreads_21 (by decide) ?_
      refine z_sub (lo1 := [(0, .ref (zb g + a0)), (1, .int v1), (2, .int x7)]) [1, 2, 0] rfl ?_
      exact ih _ _ _ h kx
set_option maxHeartbeats 4000000 in
set_option maxRecDepth 100000 in
theorem r_X12_spreads_L76 {l : Launch} {g : zL} {p : Program} {e : Env} {s : State} {m : MethodId} {args : Array Value} {below : List Frame} {meth : Method} {c : Code} {Q : State → Prop} (C0 : zC p s m args meth c g cX12_spreads yX12_spreads 9 none) (a0 : Nat) (v1 : Int32) (y21 : Int32) (hU24 : zT zNN zσ1 a0 12) : ∀ (n : Nat) (y25 : Int32) (y26 : Int32) (μ27 : zM) (x67 : Int32) (μ68 : zM), f_X12_spreads_L76 a0 v1 y21 n y25 y26 μ27 = some (x67, μ68) → Z p l e (zrm 4 0 0) s m args below meth c g Q 9 zNN 0 0 zσ1 μ68 226 [(0, .ref (zb g + a0)), (1, .int v1), (3, .int x67), (4, .int y21)] [] → Z p l e (zrm 4 0 0) s m args below meth c g Q 9 zNN 0 0 zσ1 μ27 76 [(0, .ref (zb g + a0)), (1, .int v1), (3, .int y25), (4, .int y21), (5, .int y26)] [] := by
  intro n
  induction n with
  | zero =>
    intro y25 y26 μ27 x67 μ68 h kx
    rw [f_X12_spreads_L76] at h
    cases h
  | succ n ih =>
    intro y25 y26 μ27 x67 μ68 h kx
    rw [f_X12_spreads_L76] at h
    refine z_iload C0 dX12_spreads_76 4 rfl ?_
    refine z_bipush (v := (9 : Int32)) C0 dX12_spreads_78 (by decide) ?_
    obtain ⟨b39, e_b39, h⟩ := zbd_of h
    refine z_joinb b39 μ27 96 226 [(0, .ref (zb g + a0)), (1, .int v1), (3, .int y25), (4, .int y21), (5, .int y26)] [] (fun z75 => ?_) (fun z75 => ?_) (fun k73 k74 => ?_)
    · have h := zif_t z75 h
      refine z_aload_n C0 dX12_spreads_96 rfl 0 rfl ?_
      refine z_getr C0 hU24 kf_12_32 zr_12_28 zx_12 (zs_12_28 hU24).1 dX12_spreads_97 ?_
      refine z_iload C0 dX12_spreads_100 4 rfl ?_
      obtain ⟨g40, h⟩ := zg_of h
      refine z_iald C0 (zs_12_28 hU24).2 g40 rfl dX12_spreads_102 ?_
      refine z_ldcw C0 dX12_spreads_103 kk_RX12_335 ?_
      obtain ⟨x64, μ65, e_x64, h⟩ := zbd2_of h
      refine z_join μ65 220 [(0, .ref (zb g + a0)), (1, .int v1), (3, .int x64), (4, .int y21), (5, .int y26)] [] ?_ (fun k_J42 => ?_)
      · obtain ⟨x66, e_x66, h⟩ := zl_of h
        refine z_iinc (lo1 := [(5, .int x66), (0, .ref (zb g + a0)), (1, .int v1), (3, .int x64), (4, .int y21)]) C0 dX12_spreads_220 4 rfl (by decide) e_x66.symm (by decide) rfl ?_
        refine z_goto C0 76 dX12_spreads_223 (by decide) ?_
        refine z_sub (lo1 := [(0, .ref (zb g + a0)), (1, .int v1), (3, .int x64), (4, .int y21), (5, .int x66)]) [1, 2, 3, 4, 0] rfl ?_
        exact ih _ _ _ _ _ h kx
      · have h := e_x64
        refine z_icmp_lt C0 112 dX12_spreads_106 (by decide) (fun c41 => ?_) (fun c41 => ?_)
        · have h := zif_t c41 h
          refine z_aload_n C0 dX12_spreads_112 rfl 0 rfl ?_
          refine z_iload C0 dX12_spreads_113 3 rfl ?_
          refine z_iconst (v := (4 : Int32)) C0 dX12_spreads_115 (by decide) ?_
          refine z_idiv C0 dX12_spreads_116 (by decide) ?_
          refine z_iload C0 dX12_spreads_117 4 rfl ?_
          obtain ⟨r43, μ44, e_r43, h⟩ := zbd2_of h
          refine z_callV (As := [.int (y21 / (4 : Int32)), .int y26]) (rest := []) C0 rfl kc_X12_cellAfter km_RX12_342 (r_X12_cellAfter (l := l) (g := g) a0 (y21 / (4 : Int32)) y26 μ27 hU24 e_r43) hU24.1 hU24.2.2.1 rfl (by decide) rfl (Nat.le_of_ble_eq_true rfl) (Nat.le_of_ble_eq_true rfl) (Nat.le_of_ble_eq_true rfl) (Nat.le_of_ble_eq_true rfl) (Nat.le_refl _) rfl rfl dX12_spreads_119 ?_
          refine z_istore (lo1 := [(6, .int r43), (0, .ref (zb g + a0)), (1, .int v1), (3, .int y25), (4, .int y21), (5, .int y26)]) C0 dX12_spreads_122 (by decide) rfl ?_
          refine z_iconst (v := (4 : Int32)) C0 dX12_spreads_124 (by decide) ?_
          refine z_iload C0 dX12_spreads_125 0 rfl ?_
          refine z_imul C0 dX12_spreads_127 ?_
          refine z_iload C0 dX12_spreads_128 4 rfl ?_
          refine z_iconst (v := (4 : Int32)) C0 dX12_spreads_130 (by decide) ?_
          refine z_irem C0 dX12_spreads_131 (by decide) ?_
          refine z_aload_n C0 dX12_spreads_132 rfl 1 rfl ?_
          refine z_iload C0 dX12_spreads_133 0 rfl ?_
          obtain ⟨r45, e_r45, h⟩ := zbd_of h
          refine z_callV (As := [.int r43]) (rest := [.int (y21 % (4 : Int32)), .int ((4 : Int32) * r43)]) C0 rfl kc_X12_metAt km_RX12_345 (r_X12_metAt (l := l) (g := g) a0 r43 μ44 hU24 e_r45) hU24.1 hU24.2.2.1 rfl (by decide) rfl (Nat.le_of_ble_eq_true rfl) (Nat.le_of_ble_eq_true rfl) (Nat.le_of_ble_eq_true rfl) (Nat.le_of_ble_eq_true rfl) (Nat.le_refl _) rfl rfl dX12_spreads_135 ?_
          refine z_ior C0 dX12_spreads_138 ?_
          refine z_iadd C0 dX12_spreads_139 ?_
          obtain ⟨x46, e_x46, h⟩ := zl_of h
          refine z_nm e_x46 ?_
          refine z_istore (lo1 := [(7, .int x46), (6, .int r43), (0, .ref (zb g + a0)), (1, .int v1), (3, .int y25), (4, .int y21), (5, .int y26)]) C0 dX12_spreads_140 (by decide) rfl ?_
          refine z_aload_n C0 dX12_spreads_142 rfl 2 rfl ?_
          refine z_getr C0 hU24 kf_12_41 zr_12_31 zx_12 (zs_12_31 hU24).1 dX12_spreads_143 ?_
          refine z_iload C0 dX12_spreads_146 5 rfl ?_
          obtain ⟨g47, h⟩ := zg_of h
          refine z_iald C0 (zs_12_31 hU24).2 g47 rfl dX12_spreads_148 ?_
          refine z_iload_n C0 dX12_spreads_149 rfl 3 rfl ?_
          obtain ⟨x50, e_x50, h⟩ := zl_of h
          refine z_join μ44 164 [(0, .ref (zb g + a0)), (1, .int v1), (3, .int y25), (4, .int y21), (5, .int y26), (7, .int x46)] [.int x50, .int (μ44 (a0 + 11) (y21.toNatClampNeg))] ?_ (fun k_J49 => ?_)
          · refine z_iadd C0 dX12_spreads_164 ?_
            obtain ⟨x51, e_x51, h⟩ := zl_of h
            refine z_nm e_x51 ?_
            refine z_istore (lo1 := [(8, .int x51), (0, .ref (zb g + a0)), (1, .int v1), (3, .int y25), (4, .int y21), (5, .int y26), (7, .int x46)]) C0 dX12_spreads_165 (by decide) rfl ?_
            refine z_iload_n C0 dX12_spreads_167 rfl 3 rfl ?_
            obtain ⟨x58, e_x58, h⟩ := zbd_of h
            refine z_join μ44 188 [(0, .ref (zb g + a0)), (1, .int v1), (4, .int y21), (5, .int y26), (7, .int x46), (8, .int x51)] [.int x58] ?_ (fun k_J57 => ?_)
            · refine z_istore_n (lo1 := [(3, .int x58), (0, .ref (zb g + a0)), (1, .int v1), (4, .int y21), (5, .int y26), (7, .int x46), (8, .int x51)]) C0 dX12_spreads_188 rfl (by decide) rfl ?_
              refine z_aload_n C0 dX12_spreads_189 rfl 1 rfl ?_
              refine z_getr C0 hU24 kf_12_41 zr_12_31 zx_12 (zs_12_31 hU24).1 dX12_spreads_190 ?_
              refine z_iload C0 dX12_spreads_193 5 rfl ?_
              refine z_iload C0 dX12_spreads_195 6 rfl ?_
              refine z_aload_n C0 dX12_spreads_197 rfl 1 rfl ?_
              refine z_getr C0 hU24 kf_12_41 zr_12_31 zx_12 (zs_12_31 hU24).1 dX12_spreads_198 ?_
              refine z_iload C0 dX12_spreads_201 5 rfl ?_
              obtain ⟨g59, h⟩ := zg_of h
              refine z_iald C0 (zs_12_31 hU24).2 g59 rfl dX12_spreads_203 ?_
              obtain ⟨x62, e_x62, h⟩ := zl_of h
              refine z_join μ44 219 [(0, .ref (zb g + a0)), (1, .int v1), (3, .int x58), (4, .int y21), (5, .int y26)] [.int x62, .int x46, .ref (zb g + (a0 + 11))] ?_ (fun k_J61 => ?_)
              · obtain ⟨μ63, e_μ63, h⟩ := zl_of h
                refine z_iast C0 (zs_12_31 hU24).2 g59 rfl e_μ63 dX12_spreads_219 ?_
                obtain ⟨rfl, rfl⟩ := Prod.mk.inj (Option.some.inj h)
                exact k_J42
              · have h := e_x62.symm
                refine z_icmp_ge C0 212 dX12_spreads_204 (by decide) (fun c60 => ?_) (fun c60 => ?_)
                · have h := zif_t c60 h
                  refine z_aload_n C0 dX12_spreads_212 rfl 1 rfl ?_
                  refine z_getr C0 hU24 kf_12_41 zr_12_31 zx_12 (zs_12_31 hU24).1 dX12_spreads_213 ?_
                  refine z_iload C0 dX12_spreads_216 5 rfl ?_
                  refine z_iald C0 (zs_12_31 hU24).2 g59 rfl dX12_spreads_218 ?_
                  refine z_sub (lo1 := [(0, .ref (zb g + a0)), (1, .int v1), (3, .int x58), (4, .int y21), (5, .int y26)]) [1, 2, 0, 3, 4] rfl ?_
                  obtain rfl := h
                  exact k_J61
                · have h := zif_f c60 h
                  refine z_iload C0 dX12_spreads_207 6 rfl ?_
                  refine z_goto C0 219 dX12_spreads_209 (by decide) ?_
                  refine z_sub (lo1 := [(0, .ref (zb g + a0)), (1, .int v1), (3, .int x58), (4, .int y21), (5, .int y26)]) [1, 2, 0, 3, 4] rfl ?_
                  obtain rfl := h
                  exact k_J61
            · have h := e_x58
              obtain ⟨b56, e_b56, h⟩ := zbd_of h
              refine z_joinb b56 μ44 187 183 [(8, .int x51), (0, .ref (zb g + a0)), (1, .int v1), (3, .int y25), (4, .int y21), (5, .int y26), (7, .int x46)] [] (fun z78 => ?_) (fun z78 => ?_) (fun k76 k77 => ?_)
              · have h := zif_t z78 h
                refine z_iconst (v := (0 : Int32)) C0 dX12_spreads_187 (by decide) ?_
                refine z_sub (lo1 := [(0, .ref (zb g + a0)), (1, .int v1), (4, .int y21), (5, .int y26), (7, .int x46), (8, .int x51)]) [1, 2, 4, 5, 6, 0] rfl ?_
                obtain rfl := (Option.some.inj h)
                exact k_J57
              · have h := zif_f (fun q => Bool.noConfusion (z78.symm.trans q)) h
                refine z_iconst (v := (1 : Int32)) C0 dX12_spreads_183 (by decide) ?_
                refine z_goto C0 188 dX12_spreads_184 (by decide) ?_
                refine z_sub (lo1 := [(0, .ref (zb g + a0)), (1, .int v1), (4, .int y21), (5, .int y26), (7, .int x46), (8, .int x51)]) [1, 2, 4, 5, 6, 0] rfl ?_
                obtain rfl := (Option.some.inj h)
                exact k_J57
              · have h := e_b56
                refine z_if_ne C0 183 dX12_spreads_168 (by decide) (fun c52 => ?_) (fun c52 => ?_)
                · have h := zif_t c52 h
                  exact k77 (Option.some.inj h).symm
                · have h := zif_f (fun q => q c52) h
                  refine z_iload C0 dX12_spreads_171 0 rfl ?_
                  refine z_aload_n C0 dX12_spreads_173 rfl 1 rfl ?_
                  refine z_getr C0 hU24 kf_12_41 zr_12_31 zx_12 (zs_12_31 hU24).1 dX12_spreads_174 ?_
                  refine z_iload C0 dX12_spreads_177 6 rfl ?_
                  obtain ⟨g54, h⟩ := zg_of h
                  refine z_iald C0 (zs_12_31 hU24).2 g54 rfl dX12_spreads_179 ?_
                  refine z_icmp_ge C0 187 dX12_spreads_180 (by decide) (fun c55 => ?_) (fun c55 => ?_)
                  · have h := zif_t c55 h
                    exact k76 (Option.some.inj h).symm
                  · have h := zif_f c55 h
                    exact k77 (Option.some.inj h).symm
          · have h := e_x50.symm
            refine z_if_eq C0 157 dX12_spreads_150 (by decide) (fun c48 => ?_) (fun c48 => ?_)
            · have h := zif_t c48 h
              refine z_aload_n C0 dX12_spreads_157 rfl 2 rfl ?_
              refine z_getr C0 hU24 kf_12_32 zr_12_28 zx_12 (zs_12_28 hU24).1 dX12_spreads_158 ?_
              refine z_iload C0 dX12_spreads_161 6 rfl ?_
              refine z_iald C0 (zs_12_28 hU24).2 g40 rfl dX12_spreads_163 ?_
              refine z_sub (lo1 := [(0, .ref (zb g + a0)), (1, .int v1), (3, .int y25), (4, .int y21), (5, .int y26), (7, .int x46)]) [2, 3, 4, 5, 6, 0] rfl ?_
              obtain rfl := h
              exact k_J49
            · have h := zif_f c48 h
              refine z_iconst (v := (1 : Int32)) C0 dX12_spreads_153 (by decide) ?_
              refine z_goto C0 164 dX12_spreads_154 (by decide) ?_
              refine z_sub (lo1 := [(0, .ref (zb g + a0)), (1, .int v1), (3, .int y25), (4, .int y21), (5, .int y26), (7, .int x46)]) [2, 3, 4, 5, 6, 0] rfl ?_
              obtain rfl := h
              exact k_J49
        · have h := zif_f c41 h
          refine z_goto C0 220 dX12_spreads_109 (by decide) ?_
          obtain ⟨rfl, rfl⟩ := Prod.mk.inj (Option.some.inj h)
          exact k_J42
    · have h := zif_f (fun q => Bool.noConfusion (z75.symm.trans q)) h
      refine z_sub (lo1 := [(0, .ref (zb g + a0)), (1, .int v1), (3, .int y25), (4, .int y21)]) [0, 1, 2, 3] rfl ?_
      obtain ⟨rfl, rfl⟩ := Prod.mk.inj (Option.some.inj h)
      exact kx
    · have h := e_b39
      refine z_icmp_ge C0 226 dX12_spreads_80 (by decide) (fun c28 => ?_) (fun c28 => ?_)
      · have h := zif_t c28 h
        exact k74 (Option.some.inj h).symm
      · have h := zif_f c28 h
        refine z_aload_n C0 dX12_spreads_83 rfl 0 rfl ?_
        refine z_getr C0 hU24 kf_12_41 zr_12_31 zx_12 (zs_12_31 hU24).1 dX12_spreads_84 ?_
        refine z_iload C0 dX12_spreads_87 3 rfl ?_
        obtain ⟨g36, h⟩ := zg_of h
        refine z_iald C0 (zs_12_31 hU24).2 g36 rfl dX12_spreads_89 ?_
        refine z_ldcw C0 dX12_spreads_90 kk_RX12_335 ?_
        refine z_icmp_ge C0 226 dX12_spreads_93 (by decide) (fun c37 => ?_) (fun c37 => ?_)
        · have h := zif_t c37 h
          exact k74 (Option.some.inj h).symm
        · have h := zif_f c37 h
          exact k73 (Option.some.inj h).symm
set_option maxHeartbeats 4000000 in
set_option maxRecDepth 100000 in
theorem r_X12_spreads_L65 {l : Launch} {g : zL} {p : Program} {e : Env} {s : State} {m : MethodId} {args : Array Value} {below : List Frame} {meth : Method} {c : Code} {Q : State → Prop} (C0 : zC p s m args meth c g cX12_spreads yX12_spreads 9 none) (a0 : Nat) (v1 : Int32) (hU19 : zT zNN zσ1 a0 12) : ∀ (n : Nat) (y20 : Int32) (y21 : Int32) (μ22 : zM) (x70 : Int32) (μ71 : zM), f_X12_spreads_L65 a0 v1 n y20 y21 μ22 = some (x70, μ71) → Z p l e (zrm 4 0 0) s m args below meth c g Q 9 zNN 0 0 zσ1 μ71 56 [(0, .ref (zb g + a0)), (1, .int v1), (3, .int x70)] [] → Z p l e (zrm 4 0 0) s m args below meth c g Q 9 zNN 0 0 zσ1 μ22 65 [(0, .ref (zb g + a0)), (1, .int v1), (3, .int y20), (4, .int y21)] [] := by
  intro n
  induction n with
  | zero =>
    intro y20 y21 μ22 x70 μ71 h kx
    rw [f_X12_spreads_L65] at h
    cases h
  | succ n ih =>
    intro y20 y21 μ22 x70 μ71 h kx
    rw [f_X12_spreads_L65] at h
    refine z_iload C0 dX12_spreads_65 3 rfl ?_
    refine z_sipush (v := (576 : Int32)) C0 dX12_spreads_67 (by decide) ?_
    refine z_icmp_ge C0 232 dX12_spreads_70 (by decide) (fun c23 => ?_) (fun c23 => ?_)
    · have h := zif_t c23 h
      refine z_goto C0 56 dX12_spreads_232 (by decide) ?_
      refine z_sub (lo1 := [(0, .ref (zb g + a0)), (1, .int v1), (3, .int y20)]) [0, 1, 2] rfl ?_
      obtain ⟨rfl, rfl⟩ := Prod.mk.inj (Option.some.inj h)
      exact kx
    · have h := zif_f c23 h
      refine z_iconst (v := (0 : Int32)) C0 dX12_spreads_73 (by decide) ?_
      refine z_istore (lo1 := [(5, .int (0 : Int32)), (0, .ref (zb g + a0)), (1, .int v1), (3, .int y20), (4, .int y21)]) C0 dX12_spreads_74 (by decide) rfl ?_
      refine z_sub (lo1 := [(0, .ref (zb g + a0)), (1, .int v1), (3, .int y20), (4, .int y21), (5, .int (0 : Int32))]) [1, 2, 3, 4, 0] rfl ?_
      obtain ⟨x67, μ68, e_x67, h⟩ := zbd2_of h
      refine r_X12_spreads_L76 C0 a0 v1 y21 hU19 zFU y20 (0 : Int32) μ22 x67 μ68 e_x67 ?_
      obtain ⟨x69, e_x69, h⟩ := zl_of h
      refine z_iinc (lo1 := [(4, .int x69), (0, .ref (zb g + a0)), (1, .int v1), (3, .int x67)]) C0 dX12_spreads_226 3 rfl (by decide) e_x69.symm (by decide) rfl ?_
      refine z_goto C0 65 dX12_spreads_229 (by decide) ?_
      refine z_sub (lo1 := [(0, .ref (zb g + a0)), (1, .int v1), (3, .int x67), (4, .int x69)]) [1, 2, 3, 0] rfl ?_
      exact ih _ _ _ _ _ h kx
set_option maxHeartbeats 4000000 in
set_option maxRecDepth 100000 in
theorem r_X12_spreads_L56 {l : Launch} {g : zL} {p : Program} {e : Env} {s : State} {m : MethodId} {args : Array Value} {below : List Frame} {meth : Method} {c : Code} {Q : State → Prop} (C0 : zC p s m args meth c g cX12_spreads yX12_spreads 9 none) (a0 : Nat) (v1 : Int32) (hU15 : zT zNN zσ1 a0 12) : ∀ (n : Nat) (y16 : Int32) (μ17 : zM) (μ72 : zM), f_X12_spreads_L56 a0 v1 n y16 μ17 = some μ72 → Z p l e (zrm 4 0 0) s m args below meth c g Q 9 zNN 0 0 zσ1 μ72 235 [] [] → Z p l e (zrm 4 0 0) s m args below meth c g Q 9 zNN 0 0 zσ1 μ17 56 [(0, .ref (zb g + a0)), (1, .int v1), (3, .int y16)] [] := by
  intro n
  induction n with
  | zero =>
    intro y16 μ17 μ72 h kx
    rw [f_X12_spreads_L56] at h
    cases h
  | succ n ih =>
    intro y16 μ17 μ72 h kx
    rw [f_X12_spreads_L56] at h
    refine z_iload_n C0 dX12_spreads_56 rfl 2 rfl ?_
    refine z_if_eq C0 235 dX12_spreads_57 (by decide) (fun c18 => ?_) (fun c18 => ?_)
    · have h := zif_t c18 h
      refine z_sub (lo1 := []) [] rfl ?_
      obtain rfl := (Option.some.inj h)
      exact kx
    · have h := zif_f c18 h
      refine z_iconst (v := (0 : Int32)) C0 dX12_spreads_60 (by decide) ?_
      refine z_istore_n (lo1 := [(3, .int (0 : Int32)), (0, .ref (zb g + a0)), (1, .int v1)]) C0 dX12_spreads_61 rfl (by decide) rfl ?_
      refine z_iconst (v := (0 : Int32)) C0 dX12_spreads_62 (by decide) ?_
      refine z_istore (lo1 := [(4, .int (0 : Int32)), (3, .int (0 : Int32)), (0, .ref (zb g + a0)), (1, .int v1)]) C0 dX12_spreads_63 (by decide) rfl ?_
      refine z_sub (lo1 := [(0, .ref (zb g + a0)), (1, .int v1), (3, .int (0 : Int32)), (4, .int (0 : Int32))]) [2, 3, 1, 0] rfl ?_
      obtain ⟨x70, μ71, e_x70, h⟩ := zbd2_of h
      refine r_X12_spreads_L65 C0 a0 v1 hU15 zFU (0 : Int32) (0 : Int32) μ17 x70 μ71 e_x70 ?_
      exact ih _ _ _ h kx
set_option maxHeartbeats 4000000 in
set_option maxRecDepth 100000 in
theorem r_X12_spreads {l : Launch} {g : zL} (a0 : Nat) (v1 : Int32) (μ : zM) (hT0 : zT zNN zσ1 a0 12) {μr : zM} (h : f_X12_spreads a0 v1 μ = some μr) : zMet l g yX12_spreads cX12_spreads 9 none 4 0 0 zNN zNN zσ1 zσ1 [.ref (zb g + a0), .int v1] μ none μr := by
  refine zMet.of (by decide +kernel) (Nat.le_of_ble_eq_true rfl) ?_
  intro p e s m args below meth c C0
  refine z_loc (lo1 := [(0, .ref (zb g + a0)), (1, .int v1)]) rfl ?_
  unfold f_X12_spreads at h
  refine z_iconst (v := (0 : Int32)) C0 dX12_spreads_0 (by decide) ?_
  refine z_istore_n (lo1 := [(2, .int (0 : Int32)), (0, .ref (zb g + a0)), (1, .int v1)]) C0 dX12_spreads_1 rfl (by decide) rfl ?_
  refine z_sub (lo1 := [(0, .ref (zb g + a0)), (1, .int v1), (2, .int (0 : Int32))]) [1, 2, 0] rfl ?_
  obtain ⟨μ8, e_μ8, h⟩ := zbd_of h
  refine r_X12_spreads_L2 C0 a0 v1 hT0 zFU (0 : Int32) μ μ8 e_μ8 ?_
  refine z_bipush (v := (12 : Int32)) C0 dX12_spreads_24 (by decide) ?_
  refine z_aload_n C0 dX12_spreads_26 rfl 0 rfl ?_
  refine z_iconst (v := (5 : Int32)) C0 dX12_spreads_27 (by decide) ?_
  obtain ⟨r9, e_r9, h⟩ := zbd_of h
  refine z_callV (As := [.int (5 : Int32)]) (rest := [.int (12 : Int32)]) C0 rfl kc_X12_of km_RX12_180 (r_X12_of (l := l) (g := g) a0 (5 : Int32) μ8 hT0 e_r9) hT0.1 hT0.2.2.1 rfl (by decide) rfl (Nat.le_of_ble_eq_true rfl) (Nat.le_of_ble_eq_true rfl) (Nat.le_of_ble_eq_true rfl) (Nat.le_of_ble_eq_true rfl) (Nat.le_refl _) rfl rfl dX12_spreads_28 ?_
  refine z_imul C0 dX12_spreads_31 ?_
  refine z_aload_n C0 dX12_spreads_32 rfl 0 rfl ?_
  refine z_iconst (v := (4 : Int32)) C0 dX12_spreads_33 (by decide) ?_
  obtain ⟨r10, e_r10, h⟩ := zbd_of h
  refine z_callV (As := [.int (4 : Int32)]) (rest := [.int ((12 : Int32) * r9)]) C0 rfl kc_X12_of km_RX12_180 (r_X12_of (l := l) (g := g) a0 (4 : Int32) μ8 hT0 e_r10) hT0.1 hT0.2.2.1 rfl (by decide) rfl (Nat.le_of_ble_eq_true rfl) (Nat.le_of_ble_eq_true rfl) (Nat.le_of_ble_eq_true rfl) (Nat.le_of_ble_eq_true rfl) (Nat.le_refl _) rfl rfl dX12_spreads_34 ?_
  refine z_iadd C0 dX12_spreads_37 ?_
  obtain ⟨x11, e_x11, h⟩ := zl_of h
  refine z_nm e_x11 ?_
  refine z_istore_n (lo1 := [(2, .int x11), (0, .ref (zb g + a0)), (1, .int v1)]) C0 dX12_spreads_38 rfl (by decide) rfl ?_
  refine z_aload_n C0 dX12_spreads_39 rfl 1 rfl ?_
  refine z_getr C0 hT0 kf_12_41 zr_12_31 zx_12 (zs_12_31 hT0).1 dX12_spreads_40 ?_
  refine z_iconst (v := (4 : Int32)) C0 dX12_spreads_43 (by decide) ?_
  refine z_iload_n C0 dX12_spreads_44 rfl 0 rfl ?_
  refine z_imul C0 dX12_spreads_45 ?_
  refine z_aload_n C0 dX12_spreads_46 rfl 1 rfl ?_
  refine z_iload_n C0 dX12_spreads_47 rfl 0 rfl ?_
  obtain ⟨r12, e_r12, h⟩ := zbd_of h
  refine z_callV (As := [.int x11]) (rest := [.int ((4 : Int32) * x11), .ref (zb g + (a0 + 11))]) C0 rfl kc_X12_metAt km_RX12_345 (r_X12_metAt (l := l) (g := g) a0 x11 μ8 hT0 e_r12) hT0.1 hT0.2.2.1 rfl (by decide) rfl (Nat.le_of_ble_eq_true rfl) (Nat.le_of_ble_eq_true rfl) (Nat.le_of_ble_eq_true rfl) (Nat.le_of_ble_eq_true rfl) (Nat.le_refl _) rfl rfl dX12_spreads_48 ?_
  refine z_iadd C0 dX12_spreads_51 ?_
  refine z_iconst (v := (0 : Int32)) C0 dX12_spreads_52 (by decide) ?_
  obtain ⟨g13, h⟩ := zg_of h
  obtain ⟨μ14, e_μ14, h⟩ := zl_of h
  refine z_iast C0 (zs_12_31 hT0).2 g13 rfl e_μ14 dX12_spreads_53 ?_
  refine z_iconst (v := (1 : Int32)) C0 dX12_spreads_54 (by decide) ?_
  refine z_istore_n (lo1 := [(3, .int (1 : Int32)), (2, .int x11), (0, .ref (zb g + a0)), (1, .int v1)]) C0 dX12_spreads_55 rfl (by decide) rfl ?_
  refine z_sub (lo1 := [(0, .ref (zb g + a0)), (1, .int v1), (3, .int (1 : Int32))]) [2, 3, 0] rfl ?_
  obtain ⟨μ72, e_μ72, h⟩ := zbd_of h
  refine r_X12_spreads_L56 C0 a0 v1 hT0 zFU (1 : Int32) μ14 μ72 e_μ72 ?_
  have h := Option.some.inj h
  obtain rfl := h
  exact z_vret C0 rfl dX12_spreads_235
def f_X12_soon (a0 : Nat) (v1 : Int32) (μ : zM) : Option (Int32 × zM) :=
  zbd (f_X12_prices a0 v1 μ) fun μ1 =>
  zbd (f_X12_spreads a0 (1 : Int32) μ1) fun μ2 =>
  zbd (f_X12_both a0 μ2) fun r3 =>
  some (r3, μ2)
set_option maxHeartbeats 4000000 in
set_option maxRecDepth 100000 in
theorem r_X12_soon {l : Launch} {g : zL} (a0 : Nat) (v1 : Int32) (μ : zM) (hT0 : zT zNN zσ1 a0 12) {rv : Int32} {μr : zM} (h : f_X12_soon a0 v1 μ = some (rv, μr)) : zMet l g yX12_soon cX12_soon 2 (some (.int)) 5 0 0 zNN zNN zσ1 zσ1 [.ref (zb g + a0), .int v1] μ (some (.int rv)) μr := by
  refine zMet.of (by decide +kernel) (Nat.le_of_ble_eq_true rfl) ?_
  intro p e s m args below meth c C0
  refine z_loc (lo1 := [(0, .ref (zb g + a0)), (1, .int v1)]) rfl ?_
  unfold f_X12_soon at h
  refine z_aload_n C0 dX12_soon_0 rfl 0 rfl ?_
  refine z_iload_n C0 dX12_soon_1 rfl 1 rfl ?_
  obtain ⟨μ1, e_μ1, h⟩ := zbd_of h
  refine z_callV (As := [.int v1]) (rest := []) C0 rfl kc_X12_prices km_RX12_339 (r_X12_prices (l := l) (g := g) a0 v1 μ hT0 e_μ1) hT0.1 hT0.2.2.1 rfl (by decide) rfl (Nat.le_of_ble_eq_true rfl) (Nat.le_of_ble_eq_true rfl) (Nat.le_of_ble_eq_true rfl) (Nat.le_of_ble_eq_true rfl) (Nat.le_refl _) rfl rfl dX12_soon_2 ?_
  refine z_aload_n C0 dX12_soon_5 rfl 0 rfl ?_
  refine z_iconst (v := (1 : Int32)) C0 dX12_soon_6 (by decide) ?_
  obtain ⟨μ2, e_μ2, h⟩ := zbd_of h
  refine z_callV (As := [.int (1 : Int32)]) (rest := []) C0 rfl kc_X12_spreads km_RX12_348 (r_X12_spreads (l := l) (g := g) a0 (1 : Int32) μ1 hT0 e_μ2) hT0.1 hT0.2.2.1 rfl (by decide) rfl (Nat.le_of_ble_eq_true rfl) (Nat.le_of_ble_eq_true rfl) (Nat.le_of_ble_eq_true rfl) (Nat.le_of_ble_eq_true rfl) (Nat.le_refl _) rfl rfl dX12_soon_7 ?_
  refine z_aload_n C0 dX12_soon_10 rfl 0 rfl ?_
  obtain ⟨r3, e_r3, h⟩ := zbd_of h
  refine z_callV (As := []) (rest := []) C0 rfl kc_X12_both km_RX12_351 (r_X12_both (l := l) (g := g) a0 μ2 hT0 e_r3) hT0.1 hT0.2.2.1 rfl (by decide) rfl (Nat.le_of_ble_eq_true rfl) (Nat.le_of_ble_eq_true rfl) (Nat.le_of_ble_eq_true rfl) (Nat.le_of_ble_eq_true rfl) (Nat.le_refl _) rfl rfl dX12_soon_11 ?_
  have h := Option.some.inj h
  obtain ⟨rfl, rfl⟩ := Prod.mk.inj h
  exact z_iret C0 rfl dX12_soon_14
def f_X12_sends_L52 (a0 : Nat) (r5 : Int32) : Nat → Int32 → Int32 → zM → Option (Int32 × zM)
  | 0, _, _, _ => none
  | n + 1, y11, y12, μ13 =>
    zbd (f_X12_mourners a0 μ13) fun r14 =>
    if (¬ (r14 ≤ y12)) ∧ (¬ (r5 = (-1 : Int32))) then
      zbd2 (f_X12_soon a0 y12 μ13) fun r17 μ18 =>
      zl (if (¬ (r17 = (-1 : Int32))) ∧ (¬ (r5 < r17)) then
          ((1 : Int32) <<< (y12 &&& 31))
        else
          (0 : Int32)) fun x22 =>
      zl (y11 ||| x22) fun x23 =>
      zl (y12 + (1 : Int32)) fun x24 =>
      f_X12_sends_L52 a0 r5 n x23 x24 μ18
    else
      some (y11, μ13)
def f_X12_sends (a0 : Nat) (v1 : Int32) (v2 : Int32) (μ : zM) : Option (Int32 × zM) :=
  zbd2 (f_X12_isLake a0 v1 μ) fun r1 μ2 =>
  if (¬ (r1 = 0)) ∧ (¬ (f_X12_isIn v2 (0 : Int32) (2 : Int32)) = 0) then
    zbd2 (f_X12_soon a0 (-1 : Int32) μ2) fun r5 μ6 =>
    if ¬ v2 = 0 then
      if ¬ v2 = (1 : Int32) then
        zbd2 (f_X12_sends_L52 a0 r5 zFU (0 : Int32) (0 : Int32) μ6) fun x25 μ26 =>
        some (x25, μ26)
      else
        zbd (f_X12_spreads a0 (0 : Int32) μ6) fun μ27 =>
        zbd (f_X12_both a0 μ27) fun r28 =>
        some (r28, μ27)
    else
      some (r5, μ6)
  else
    some ((-1 : Int32), μ2)
set_option maxHeartbeats 4000000 in
set_option maxRecDepth 100000 in
theorem r_X12_sends_L52 {l : Launch} {g : zL} {p : Program} {e : Env} {s : State} {m : MethodId} {args : Array Value} {below : List Frame} {meth : Method} {c : Code} {Q : State → Prop} (C0 : zC p s m args meth c g cX12_sends yX12_sends 7 (some (.int))) (a0 : Nat) (r5 : Int32) (hU10 : zT zNN zσ1 a0 12) : ∀ (n : Nat) (y11 : Int32) (y12 : Int32) (μ13 : zM) (x25 : Int32) (μ26 : zM), f_X12_sends_L52 a0 r5 n y11 y12 μ13 = some (x25, μ26) → Z p l e (zrm 6 0 0) s m args below meth c g Q 7 zNN 0 0 zσ1 μ26 105 [(4, .int x25)] [] → Z p l e (zrm 6 0 0) s m args below meth c g Q 7 zNN 0 0 zσ1 μ13 52 [(0, .ref (zb g + a0)), (3, .int r5), (4, .int y11), (5, .int y12)] [] := by
  intro n
  induction n with
  | zero =>
    intro y11 y12 μ13 x25 μ26 h kx
    rw [f_X12_sends_L52] at h
    cases h
  | succ n ih =>
    intro y11 y12 μ13 x25 μ26 h kx
    rw [f_X12_sends_L52] at h
    refine z_iload C0 dX12_sends_52 3 rfl ?_
    refine z_aload_n C0 dX12_sends_54 rfl 0 rfl ?_
    obtain ⟨r14, e_r14, h⟩ := zbd_of h
    refine z_callV (As := []) (rest := [.int y12]) C0 rfl kc_X12_mourners km_RX12_183 (r_X12_mourners (l := l) (g := g) a0 μ13 hU10 e_r14) hU10.1 hU10.2.2.1 rfl (by decide) rfl (Nat.le_of_ble_eq_true rfl) (Nat.le_of_ble_eq_true rfl) (Nat.le_of_ble_eq_true rfl) (Nat.le_of_ble_eq_true rfl) (Nat.le_refl _) rfl rfl dX12_sends_55 ?_
    by_cases hc29 : (¬ (r14 ≤ y12)) ∧ (¬ (r5 = (-1 : Int32)))
    · have h := zif_t hc29 h
      refine z_join μ13 66 [(0, .ref (zb g + a0)), (3, .int r5), (4, .int y11), (5, .int y12)] [] ?_ (fun k30 => ?_)
      · refine z_aload_n C0 dX12_sends_66 rfl 0 rfl ?_
        refine z_iload C0 dX12_sends_67 3 rfl ?_
        obtain ⟨r17, μ18, e_r17, h⟩ := zbd2_of h
        refine z_callV (As := [.int y12]) (rest := []) C0 rfl kc_X12_soon km_RX12_354 (r_X12_soon (l := l) (g := g) a0 y12 μ13 hU10 e_r17) hU10.1 hU10.2.2.1 rfl (by decide) rfl (Nat.le_of_ble_eq_true rfl) (Nat.le_of_ble_eq_true rfl) (Nat.le_of_ble_eq_true rfl) (Nat.le_of_ble_eq_true rfl) (Nat.le_refl _) rfl rfl dX12_sends_69 ?_
        refine z_istore (lo1 := [(6, .int r17), (0, .ref (zb g + a0)), (3, .int r5), (4, .int y11), (5, .int y12)]) C0 dX12_sends_72 (by decide) rfl ?_
        refine z_iload C0 dX12_sends_74 3 rfl ?_
        refine z_iload C0 dX12_sends_76 0 rfl ?_
        refine z_iconst (v := (-1 : Int32)) C0 dX12_sends_78 (by decide) ?_
        obtain ⟨x22, e_x22, h⟩ := zl_of h
        refine z_join μ18 96 [(0, .ref (zb g + a0)), (3, .int r5), (5, .int y12)] [.int x22, .int y11] ?_ (fun k_J21 => ?_)
        · refine z_ior C0 dX12_sends_96 ?_
          obtain ⟨x23, e_x23, h⟩ := zl_of h
          refine z_nm e_x23 ?_
          refine z_istore (lo1 := [(4, .int x23), (0, .ref (zb g + a0)), (3, .int r5), (5, .int y12)]) C0 dX12_sends_97 (by decide) rfl ?_
          obtain ⟨x24, e_x24, h⟩ := zl_of h
          refine z_iinc (lo1 := [(5, .int x24), (4, .int x23), (0, .ref (zb g + a0)), (3, .int r5)]) C0 dX12_sends_99 3 rfl (by decide) e_x24.symm (by decide) rfl ?_
          refine z_goto C0 52 dX12_sends_102 (by decide) ?_
          refine z_sub (lo1 := [(0, .ref (zb g + a0)), (3, .int r5), (4, .int x23), (5, .int x24)]) [2, 3, 1, 0] rfl ?_
          exact ih _ _ _ _ _ h kx
        · have h := e_x22.symm
          by_cases hc31 : (¬ (r17 = (-1 : Int32))) ∧ (¬ (r5 < r17))
          · have h := zif_t hc31 h
            refine z_join μ18 88 [(6, .int r17), (0, .ref (zb g + a0)), (3, .int r5), (4, .int y11), (5, .int y12)] [.int y11] ?_ (fun k32 => ?_)
            · refine z_iconst (v := (1 : Int32)) C0 dX12_sends_88 (by decide) ?_
              refine z_iload C0 dX12_sends_89 4 rfl ?_
              refine z_ishl C0 dX12_sends_91 ?_
              refine z_goto C0 96 dX12_sends_92 (by decide) ?_
              refine z_sub (lo1 := [(0, .ref (zb g + a0)), (3, .int r5), (5, .int y12)]) [1, 2, 4] rfl ?_
              obtain rfl := h
              exact k_J21
            · refine z_icmp_eq C0 95 dX12_sends_79 (by decide) (fun c19 => ?_) (fun c19 => ?_)
              · exact absurd hc31 (fun q => q.1 c19)
              · refine z_iload C0 dX12_sends_82 0 rfl ?_
                refine z_iload_n C0 dX12_sends_84 rfl 2 rfl ?_
                refine z_icmp_gt C0 95 dX12_sends_85 (by decide) (fun c20 => ?_) (fun c20 => ?_)
                · exact absurd hc31 (fun q => (fun q => q c20) q.2)
                · exact k32
          · have h := zif_f hc31 h
            refine z_join μ18 95 [(6, .int r17), (0, .ref (zb g + a0)), (3, .int r5), (4, .int y11), (5, .int y12)] [.int y11] ?_ (fun k33 => ?_)
            · refine z_iconst (v := (0 : Int32)) C0 dX12_sends_95 (by decide) ?_
              refine z_sub (lo1 := [(0, .ref (zb g + a0)), (3, .int r5), (5, .int y12)]) [1, 2, 4] rfl ?_
              obtain rfl := h
              exact k_J21
            · refine z_icmp_eq C0 95 dX12_sends_79 (by decide) (fun c19 => ?_) (fun c19 => ?_)
              · exact k33
              · refine z_iload C0 dX12_sends_82 0 rfl ?_
                refine z_iload_n C0 dX12_sends_84 rfl 2 rfl ?_
                refine z_icmp_gt C0 95 dX12_sends_85 (by decide) (fun c20 => ?_) (fun c20 => ?_)
                · exact k33
                · exact absurd ⟨c19, c20⟩ hc31
      · refine z_icmp_ge C0 105 dX12_sends_58 (by decide) (fun c15 => ?_) (fun c15 => ?_)
        · exact absurd hc29 (fun q => q.1 c15)
        · refine z_iload_n C0 dX12_sends_61 rfl 1 rfl ?_
          refine z_iconst (v := (-1 : Int32)) C0 dX12_sends_62 (by decide) ?_
          refine z_icmp_eq C0 105 dX12_sends_63 (by decide) (fun c16 => ?_) (fun c16 => ?_)
          · exact absurd hc29 (fun q => (fun q => q c16) q.2)
          · exact k30
    · have h := zif_f hc29 h
      refine z_join μ13 105 [(0, .ref (zb g + a0)), (3, .int r5), (4, .int y11), (5, .int y12)] [] ?_ (fun k34 => ?_)
      · refine z_sub (lo1 := [(4, .int y11)]) [2] rfl ?_
        obtain ⟨rfl, rfl⟩ := Prod.mk.inj (Option.some.inj h)
        exact kx
      · refine z_icmp_ge C0 105 dX12_sends_58 (by decide) (fun c15 => ?_) (fun c15 => ?_)
        · exact k34
        · refine z_iload_n C0 dX12_sends_61 rfl 1 rfl ?_
          refine z_iconst (v := (-1 : Int32)) C0 dX12_sends_62 (by decide) ?_
          refine z_icmp_eq C0 105 dX12_sends_63 (by decide) (fun c16 => ?_) (fun c16 => ?_)
          · exact k34
          · exact absurd ⟨c15, c16⟩ hc29
set_option maxHeartbeats 4000000 in
set_option maxRecDepth 100000 in
theorem r_X12_sends {l : Launch} {g : zL} (a0 : Nat) (v1 : Int32) (v2 : Int32) (μ : zM) (hT0 : zT zNN zσ1 a0 12) {rv : Int32} {μr : zM} (h : f_X12_sends a0 v1 v2 μ = some (rv, μr)) : zMet l g yX12_sends cX12_sends 7 (some (.int)) 6 0 0 zNN zNN zσ1 zσ1 [.ref (zb g + a0), .int v1, .int v2] μ (some (.int rv)) μr := by
  refine zMet.of (by decide +kernel) (Nat.le_of_ble_eq_true rfl) ?_
  intro p e s m args below meth c C0
  refine z_loc (lo1 := [(0, .ref (zb g + a0)), (1, .int v1), (2, .int v2)]) rfl ?_
  unfold f_X12_sends at h
  refine z_aload_n C0 dX12_sends_0 rfl 0 rfl ?_
  refine z_iload_n C0 dX12_sends_1 rfl 1 rfl ?_
  obtain ⟨r1, μ2, e_r1, h⟩ := zbd2_of h
  refine z_callV (As := [.int v1]) (rest := []) C0 rfl kc_X12_isLake km_RX12_186 (r_X12_isLake (l := l) (g := g) a0 v1 μ hT0 e_r1) hT0.1 hT0.2.2.1 rfl (by decide) rfl (Nat.le_of_ble_eq_true rfl) (Nat.le_of_ble_eq_true rfl) (Nat.le_of_ble_eq_true rfl) (Nat.le_of_ble_eq_true rfl) (Nat.le_refl _) rfl rfl dX12_sends_2 ?_
  by_cases hc35 : (¬ (r1 = 0)) ∧ (¬ (f_X12_isIn v2 (0 : Int32) (2 : Int32)) = 0)
  · have h := zif_t hc35 h
    refine z_join μ2 19 [(0, .ref (zb g + a0)), (1, .int v1), (2, .int v2)] [] ?_ (fun k36 => ?_)
    · refine z_aload_n C0 dX12_sends_19 rfl 0 rfl ?_
      refine z_iconst (v := (-1 : Int32)) C0 dX12_sends_20 (by decide) ?_
      obtain ⟨r5, μ6, e_r5, h⟩ := zbd2_of h
      refine z_callV (As := [.int (-1 : Int32)]) (rest := []) C0 rfl kc_X12_soon km_RX12_354 (r_X12_soon (l := l) (g := g) a0 (-1 : Int32) μ2 hT0 e_r5) hT0.1 hT0.2.2.1 rfl (by decide) rfl (Nat.le_of_ble_eq_true rfl) (Nat.le_of_ble_eq_true rfl) (Nat.le_of_ble_eq_true rfl) (Nat.le_of_ble_eq_true rfl) (Nat.le_refl _) rfl rfl dX12_sends_21 ?_
      refine z_istore_n (lo1 := [(3, .int r5), (0, .ref (zb g + a0)), (1, .int v1), (2, .int v2)]) C0 dX12_sends_24 rfl (by decide) rfl ?_
      refine z_iload_n C0 dX12_sends_25 rfl 3 rfl ?_
      refine z_if_ne C0 31 dX12_sends_26 (by decide) (fun c7 => ?_) (fun c7 => ?_)
      · have h := zif_t c7 h
        refine z_iload_n C0 dX12_sends_31 rfl 3 rfl ?_
        refine z_iconst (v := (1 : Int32)) C0 dX12_sends_32 (by decide) ?_
        refine z_icmp_ne C0 46 dX12_sends_33 (by decide) (fun c9 => ?_) (fun c9 => ?_)
        · have h := zif_t c9 h
          refine z_iconst (v := (0 : Int32)) C0 dX12_sends_46 (by decide) ?_
          refine z_istore (lo1 := [(4, .int (0 : Int32)), (3, .int r5), (0, .ref (zb g + a0)), (1, .int v1), (2, .int v2)]) C0 dX12_sends_47 (by decide) rfl ?_
          refine z_iconst (v := (0 : Int32)) C0 dX12_sends_49 (by decide) ?_
          refine z_istore (lo1 := [(5, .int (0 : Int32)), (4, .int (0 : Int32)), (3, .int r5), (0, .ref (zb g + a0)), (1, .int v1), (2, .int v2)]) C0 dX12_sends_50 (by decide) rfl ?_
          refine z_sub (lo1 := [(0, .ref (zb g + a0)), (3, .int r5), (4, .int (0 : Int32)), (5, .int (0 : Int32))]) [3, 2, 1, 0] rfl ?_
          obtain ⟨x25, μ26, e_x25, h⟩ := zbd2_of h
          refine r_X12_sends_L52 C0 a0 r5 hT0 zFU (0 : Int32) (0 : Int32) μ6 x25 μ26 e_x25 ?_
          refine z_iload C0 dX12_sends_105 0 rfl ?_
          have h := Option.some.inj h
          obtain ⟨rfl, rfl⟩ := Prod.mk.inj h
          exact z_iret C0 rfl dX12_sends_107
        · have h := zif_f (fun q => q c9) h
          refine z_aload_n C0 dX12_sends_36 rfl 1 rfl ?_
          refine z_iconst (v := (0 : Int32)) C0 dX12_sends_37 (by decide) ?_
          obtain ⟨μ27, e_μ27, h⟩ := zbd_of h
          refine z_callV (As := [.int (0 : Int32)]) (rest := []) C0 rfl kc_X12_spreads km_RX12_348 (r_X12_spreads (l := l) (g := g) a0 (0 : Int32) μ6 hT0 e_μ27) hT0.1 hT0.2.2.1 rfl (by decide) rfl (Nat.le_of_ble_eq_true rfl) (Nat.le_of_ble_eq_true rfl) (Nat.le_of_ble_eq_true rfl) (Nat.le_of_ble_eq_true rfl) (Nat.le_refl _) rfl rfl dX12_sends_38 ?_
          refine z_aload_n C0 dX12_sends_41 rfl 1 rfl ?_
          obtain ⟨r28, e_r28, h⟩ := zbd_of h
          refine z_callV (As := []) (rest := []) C0 rfl kc_X12_both km_RX12_351 (r_X12_both (l := l) (g := g) a0 μ27 hT0 e_r28) hT0.1 hT0.2.2.1 rfl (by decide) rfl (Nat.le_of_ble_eq_true rfl) (Nat.le_of_ble_eq_true rfl) (Nat.le_of_ble_eq_true rfl) (Nat.le_of_ble_eq_true rfl) (Nat.le_refl _) rfl rfl dX12_sends_42 ?_
          have h := Option.some.inj h
          obtain ⟨rfl, rfl⟩ := Prod.mk.inj h
          exact z_iret C0 rfl dX12_sends_45
      · have h := zif_f (fun q => q c7) h
        refine z_iload_n C0 dX12_sends_29 rfl 0 rfl ?_
        have h := Option.some.inj h
        obtain ⟨rfl, rfl⟩ := Prod.mk.inj h
        exact z_iret C0 rfl dX12_sends_30
    · refine z_if_eq C0 17 dX12_sends_5 (by decide) (fun c3 => ?_) (fun c3 => ?_)
      · exact absurd hc35 (fun q => q.1 c3)
      · refine z_iload_n C0 dX12_sends_8 rfl 2 rfl ?_
        refine z_iconst (v := (0 : Int32)) C0 dX12_sends_9 (by decide) ?_
        refine z_iconst (v := (2 : Int32)) C0 dX12_sends_10 (by decide) ?_
        refine z_callS (As := [.int v2, .int (0 : Int32), .int (2 : Int32)]) (rest := []) C0 rfl kc_X12_isIn km_RX12_109 (r_X12_isIn (l := l) (g := g) (μ := μ2) v2 (0 : Int32) (2 : Int32) rfl) rfl (Nat.le_of_ble_eq_true rfl) (Nat.le_of_ble_eq_true rfl) (Nat.le_of_ble_eq_true rfl) (Nat.le_of_ble_eq_true rfl) (Nat.le_refl _) rfl rfl dX12_sends_11 ?_
        refine z_if_ne C0 19 dX12_sends_14 (by decide) (fun c4 => ?_) (fun c4 => ?_)
        · exact k36
        · exact absurd hc35 (fun q => (fun q => q c4) q.2)
  · have h := zif_f hc35 h
    refine z_join μ2 17 [(0, .ref (zb g + a0)), (1, .int v1), (2, .int v2)] [] ?_ (fun k37 => ?_)
    · refine z_iconst (v := (-1 : Int32)) C0 dX12_sends_17 (by decide) ?_
      have h := Option.some.inj h
      obtain ⟨rfl, rfl⟩ := Prod.mk.inj h
      exact z_iret C0 rfl dX12_sends_18
    · refine z_if_eq C0 17 dX12_sends_5 (by decide) (fun c3 => ?_) (fun c3 => ?_)
      · exact k37
      · refine z_iload_n C0 dX12_sends_8 rfl 2 rfl ?_
        refine z_iconst (v := (0 : Int32)) C0 dX12_sends_9 (by decide) ?_
        refine z_iconst (v := (2 : Int32)) C0 dX12_sends_10 (by decide) ?_
        refine z_callS (As := [.int v2, .int (0 : Int32), .int (2 : Int32)]) (rest := []) C0 rfl kc_X12_isIn km_RX12_109 (r_X12_isIn (l := l) (g := g) (μ := μ2) v2 (0 : Int32) (2 : Int32) rfl) rfl (Nat.le_of_ble_eq_true rfl) (Nat.le_of_ble_eq_true rfl) (Nat.le_of_ble_eq_true rfl) (Nat.le_of_ble_eq_true rfl) (Nat.le_refl _) rfl rfl dX12_sends_11 ?_
        refine z_if_ne C0 19 dX12_sends_14 (by decide) (fun c4 => ?_) (fun c4 => ?_)
        · exact absurd ⟨c3, c4⟩ hc35
        · exact k37
def f_X12_sight (a0 : Nat) (v1 : Int32) (v2 : Int32) (v3 : Int32) (μ : zM) : Option (Int32 × zM) :=
  zbd (f_X12_isOf a0 (2 : Int32) v1 μ) fun r1 =>
  if ¬ r1 = 0 then
    zl (zup μ a0 32 (f_X12_placeOf (2 : Int32) v1)) fun μ3 =>
    if ¬ v2 = (-1 : Int32) then
      zbd (f_X12_sights a0 μ3) fun r11 =>
      zbd (if (¬ ((f_X12_isIn v2 (0 : Int32) (r11 - (1 : Int32))) = 0)) ∧ (¬ ((f_X12_isIn v3 (0 : Int32) (1 : Int32)) = 0)) then
          zbd (f_X12_sightOf a0 v2 v3 μ3) fun r15 =>
          some r15
        else
          some (-2 : Int32)) fun x16 =>
      some (x16, μ3)
    else
      zbd (if ¬ v3 = 0 then
          some (-2 : Int32)
        else
          zbd (f_X12_sights a0 μ3) fun r19 =>
          some r19) fun x20 =>
      some (x20, μ3)
  else
    some ((-2 : Int32), μ)
set_option maxHeartbeats 4000000 in
set_option maxRecDepth 100000 in
theorem r_X12_sight {l : Launch} {g : zL} (a0 : Nat) (v1 : Int32) (v2 : Int32) (v3 : Int32) (μ : zM) (hT0 : zT zNN zσ1 a0 12) {rv : Int32} {μr : zM} (h : f_X12_sight a0 v1 v2 v3 μ = some (rv, μr)) : zMet l g yX12_sight cX12_sight 4 (some (.int)) 2 0 0 zNN zNN zσ1 zσ1 [.ref (zb g + a0), .int v1, .int v2, .int v3] μ (some (.int rv)) μr := by
  refine zMet.of (by decide +kernel) (Nat.le_of_ble_eq_true rfl) ?_
  intro p e s m args below meth c C0
  refine z_loc (lo1 := [(0, .ref (zb g + a0)), (1, .int v1), (2, .int v2), (3, .int v3)]) rfl ?_
  unfold f_X12_sight at h
  refine z_aload_n C0 dX12_sight_0 rfl 0 rfl ?_
  refine z_iconst (v := (2 : Int32)) C0 dX12_sight_1 (by decide) ?_
  refine z_iload_n C0 dX12_sight_2 rfl 1 rfl ?_
  obtain ⟨r1, e_r1, h⟩ := zbd_of h
  refine z_callV (As := [.int (2 : Int32), .int v1]) (rest := []) C0 rfl kc_X12_isOf km_RX12_144 (r_X12_isOf (l := l) (g := g) a0 (2 : Int32) v1 μ hT0 e_r1) hT0.1 hT0.2.2.1 rfl (by decide) rfl (Nat.le_of_ble_eq_true rfl) (Nat.le_of_ble_eq_true rfl) (Nat.le_of_ble_eq_true rfl) (Nat.le_of_ble_eq_true rfl) (Nat.le_refl _) rfl rfl dX12_sight_3 ?_
  refine z_if_ne C0 12 dX12_sight_6 (by decide) (fun c2 => ?_) (fun c2 => ?_)
  · have h := zif_t c2 h
    refine z_aload_n C0 dX12_sight_12 rfl 0 rfl ?_
    refine z_iconst (v := (2 : Int32)) C0 dX12_sight_13 (by decide) ?_
    refine z_iload_n C0 dX12_sight_14 rfl 1 rfl ?_
    refine z_callS (As := [.int (2 : Int32), .int v1]) (rest := [.ref (zb g + a0)]) C0 rfl kc_X12_placeOf km_RX12_174 (r_X12_placeOf (l := l) (g := g) (μ := μ) (2 : Int32) v1 rfl) rfl (Nat.le_of_ble_eq_true rfl) (Nat.le_of_ble_eq_true rfl) (Nat.le_of_ble_eq_true rfl) (Nat.le_of_ble_eq_true rfl) (Nat.le_refl _) rfl rfl dX12_sight_15 ?_
    obtain ⟨μ3, e_μ3, h⟩ := zl_of h
    refine z_puti C0 hT0.1 hT0.2.2.1 kf_12_366 zp_12_32 zr_12_32 e_μ3 dX12_sight_18 ?_
    refine z_iload_n C0 dX12_sight_21 rfl 2 rfl ?_
    refine z_iconst (v := (-1 : Int32)) C0 dX12_sight_22 (by decide) ?_
    refine z_icmp_ne C0 40 dX12_sight_23 (by decide) (fun c4 => ?_) (fun c4 => ?_)
    · have h := zif_t c4 h
      refine z_iload_n C0 dX12_sight_40 rfl 2 rfl ?_
      refine z_iconst (v := (0 : Int32)) C0 dX12_sight_41 (by decide) ?_
      refine z_aload_n C0 dX12_sight_42 rfl 0 rfl ?_
      obtain ⟨r11, e_r11, h⟩ := zbd_of h
      refine z_callV (As := []) (rest := [.int (0 : Int32), .int v2]) C0 rfl kc_X12_sights km_RX12_369 (r_X12_sights (l := l) (g := g) a0 μ3 hT0 e_r11) hT0.1 hT0.2.2.1 rfl (by decide) rfl (Nat.le_of_ble_eq_true rfl) (Nat.le_of_ble_eq_true rfl) (Nat.le_of_ble_eq_true rfl) (Nat.le_of_ble_eq_true rfl) (Nat.le_refl _) rfl rfl dX12_sight_43 ?_
      refine z_iconst (v := (1 : Int32)) C0 dX12_sight_46 (by decide) ?_
      refine z_isub C0 dX12_sight_47 ?_
      refine z_callS (As := [.int v2, .int (0 : Int32), .int (r11 - (1 : Int32))]) (rest := []) C0 rfl kc_X12_isIn km_RX12_109 (r_X12_isIn (l := l) (g := g) (μ := μ3) v2 (0 : Int32) (r11 - (1 : Int32)) rfl) rfl (Nat.le_of_ble_eq_true rfl) (Nat.le_of_ble_eq_true rfl) (Nat.le_of_ble_eq_true rfl) (Nat.le_of_ble_eq_true rfl) (Nat.le_refl _) rfl rfl dX12_sight_48 ?_
      obtain ⟨x16, e_x16, h⟩ := zbd_of h
      refine z_join μ3 74 [] [.int x16] ?_ (fun k_J14 => ?_)
      · have h := Option.some.inj h
        obtain ⟨rfl, rfl⟩ := Prod.mk.inj h
        exact z_iret C0 rfl dX12_sight_74
      · have h := e_x16
        by_cases hc21 : (¬ ((f_X12_isIn v2 (0 : Int32) (r11 - (1 : Int32))) = 0)) ∧ (¬ ((f_X12_isIn v3 (0 : Int32) (1 : Int32)) = 0))
        · have h := zif_t hc21 h
          refine z_join μ3 63 [(0, .ref (zb g + a0)), (1, .int v1), (2, .int v2), (3, .int v3)] [] ?_ (fun k22 => ?_)
          · refine z_aload_n C0 dX12_sight_63 rfl 0 rfl ?_
            refine z_iload_n C0 dX12_sight_64 rfl 2 rfl ?_
            refine z_iload_n C0 dX12_sight_65 rfl 3 rfl ?_
            obtain ⟨r15, e_r15, h⟩ := zbd_of h
            refine z_callV (As := [.int v2, .int v3]) (rest := []) C0 rfl kc_X12_sightOf km_RX12_372 (r_X12_sightOf (l := l) (g := g) a0 v2 v3 μ3 hT0 e_r15) hT0.1 hT0.2.2.1 rfl (by decide) rfl (Nat.le_of_ble_eq_true rfl) (Nat.le_of_ble_eq_true rfl) (Nat.le_of_ble_eq_true rfl) (Nat.le_of_ble_eq_true rfl) (Nat.le_refl _) rfl rfl dX12_sight_66 ?_
            refine z_goto C0 74 dX12_sight_69 (by decide) ?_
            refine z_sub (lo1 := []) [] rfl ?_
            obtain rfl := (Option.some.inj h)
            exact k_J14
          · refine z_if_eq C0 72 dX12_sight_51 (by decide) (fun c12 => ?_) (fun c12 => ?_)
            · exact absurd hc21 (fun q => q.1 c12)
            · refine z_iload_n C0 dX12_sight_54 rfl 3 rfl ?_
              refine z_iconst (v := (0 : Int32)) C0 dX12_sight_55 (by decide) ?_
              refine z_iconst (v := (1 : Int32)) C0 dX12_sight_56 (by decide) ?_
              refine z_callS (As := [.int v3, .int (0 : Int32), .int (1 : Int32)]) (rest := []) C0 rfl kc_X12_isIn km_RX12_109 (r_X12_isIn (l := l) (g := g) (μ := μ3) v3 (0 : Int32) (1 : Int32) rfl) rfl (Nat.le_of_ble_eq_true rfl) (Nat.le_of_ble_eq_true rfl) (Nat.le_of_ble_eq_true rfl) (Nat.le_of_ble_eq_true rfl) (Nat.le_refl _) rfl rfl dX12_sight_57 ?_
              refine z_if_eq C0 72 dX12_sight_60 (by decide) (fun c13 => ?_) (fun c13 => ?_)
              · exact absurd hc21 (fun q => (fun q => q c13) q.2)
              · exact k22
        · have h := zif_f hc21 h
          refine z_join μ3 72 [(0, .ref (zb g + a0)), (1, .int v1), (2, .int v2), (3, .int v3)] [] ?_ (fun k23 => ?_)
          · refine z_bipush (v := (-2 : Int32)) C0 dX12_sight_72 (by decide) ?_
            refine z_sub (lo1 := []) [] rfl ?_
            obtain rfl := (Option.some.inj h)
            exact k_J14
          · refine z_if_eq C0 72 dX12_sight_51 (by decide) (fun c12 => ?_) (fun c12 => ?_)
            · exact k23
            · refine z_iload_n C0 dX12_sight_54 rfl 3 rfl ?_
              refine z_iconst (v := (0 : Int32)) C0 dX12_sight_55 (by decide) ?_
              refine z_iconst (v := (1 : Int32)) C0 dX12_sight_56 (by decide) ?_
              refine z_callS (As := [.int v3, .int (0 : Int32), .int (1 : Int32)]) (rest := []) C0 rfl kc_X12_isIn km_RX12_109 (r_X12_isIn (l := l) (g := g) (μ := μ3) v3 (0 : Int32) (1 : Int32) rfl) rfl (Nat.le_of_ble_eq_true rfl) (Nat.le_of_ble_eq_true rfl) (Nat.le_of_ble_eq_true rfl) (Nat.le_of_ble_eq_true rfl) (Nat.le_refl _) rfl rfl dX12_sight_57 ?_
              refine z_if_eq C0 72 dX12_sight_60 (by decide) (fun c13 => ?_) (fun c13 => ?_)
              · exact k23
              · exact absurd ⟨c12, c13⟩ hc21
    · have h := zif_f (fun q => q c4) h
      refine z_iload_n C0 dX12_sight_26 rfl 3 rfl ?_
      obtain ⟨x20, e_x20, h⟩ := zbd_of h
      refine z_join μ3 39 [] [.int x20] ?_ (fun k_J18 => ?_)
      · have h := Option.some.inj h
        obtain ⟨rfl, rfl⟩ := Prod.mk.inj h
        exact z_iret C0 rfl dX12_sight_39
      · have h := e_x20
        refine z_if_ne C0 37 dX12_sight_27 (by decide) (fun c17 => ?_) (fun c17 => ?_)
        · have h := zif_t c17 h
          refine z_bipush (v := (-2 : Int32)) C0 dX12_sight_37 (by decide) ?_
          refine z_sub (lo1 := []) [] rfl ?_
          obtain rfl := (Option.some.inj h)
          exact k_J18
        · have h := zif_f (fun q => q c17) h
          refine z_aload_n C0 dX12_sight_30 rfl 0 rfl ?_
          obtain ⟨r19, e_r19, h⟩ := zbd_of h
          refine z_callV (As := []) (rest := []) C0 rfl kc_X12_sights km_RX12_369 (r_X12_sights (l := l) (g := g) a0 μ3 hT0 e_r19) hT0.1 hT0.2.2.1 rfl (by decide) rfl (Nat.le_of_ble_eq_true rfl) (Nat.le_of_ble_eq_true rfl) (Nat.le_of_ble_eq_true rfl) (Nat.le_of_ble_eq_true rfl) (Nat.le_refl _) rfl rfl dX12_sight_31 ?_
          refine z_goto C0 39 dX12_sight_34 (by decide) ?_
          refine z_sub (lo1 := []) [] rfl ?_
          obtain rfl := (Option.some.inj h)
          exact k_J18
  · have h := zif_f (fun q => q c2) h
    refine z_bipush (v := (-2 : Int32)) C0 dX12_sight_9 (by decide) ?_
    have h := Option.some.inj h
    obtain ⟨rfl, rfl⟩ := Prod.mk.inj h
    exact z_iret C0 rfl dX12_sight_11
def f_X12_sizeOf (v0 : Int32) : Int32 :=
  zl (if ¬ v0 = 0 then
      if ¬ v0 = (1 : Int32) then
        if ¬ v0 = (2 : Int32) then
          if ¬ v0 = (3 : Int32) then
            (25 : Int32)
          else
            (9 : Int32)
        else
          (17 : Int32)
      else
        (121 : Int32)
    else
      (109 : Int32)) fun x12 =>
  x12
set_option maxHeartbeats 4000000 in
set_option maxRecDepth 100000 in
theorem r_X12_sizeOf {l : Launch} {g : zL} (v0 : Int32) {μ : zM}  {rv : Int32} (h : f_X12_sizeOf v0 = rv) : zMet l g yX12_sizeOf cX12_sizeOf 1 (some (.int)) 0 0 0 zNN zNN zσ1 zσ1 [.int v0] μ (some (.int rv)) μ := by
  refine zMet.of (by decide +kernel) (Nat.le_of_ble_eq_true rfl) ?_
  intro p e s m args below meth c C0
  refine z_loc (lo1 := [(0, .int v0)]) rfl ?_
  unfold f_X12_sizeOf at h
  refine z_iload_n C0 dX12_sizeOf_0 rfl 0 rfl ?_
  obtain ⟨x12, e_x12, h⟩ := zl_of h
  refine z_join μ 41 [] [.int x12] ?_ (fun k_J5 => ?_)
  · skip
    obtain rfl := h
    exact z_iret C0 rfl dX12_sizeOf_41
  · have h := e_x12.symm
    refine z_if_ne C0 9 dX12_sizeOf_1 (by decide) (fun c1 => ?_) (fun c1 => ?_)
    · have h := zif_t c1 h
      refine z_iload_n C0 dX12_sizeOf_9 rfl 0 rfl ?_
      refine z_iconst (v := (1 : Int32)) C0 dX12_sizeOf_10 (by decide) ?_
      refine z_icmp_ne C0 19 dX12_sizeOf_11 (by decide) (fun c6 => ?_) (fun c6 => ?_)
      · have h := zif_t c6 h
        refine z_iload_n C0 dX12_sizeOf_19 rfl 0 rfl ?_
        refine z_iconst (v := (2 : Int32)) C0 dX12_sizeOf_20 (by decide) ?_
        refine z_icmp_ne C0 29 dX12_sizeOf_21 (by decide) (fun c9 => ?_) (fun c9 => ?_)
        · have h := zif_t c9 h
          refine z_iload_n C0 dX12_sizeOf_29 rfl 0 rfl ?_
          refine z_iconst (v := (3 : Int32)) C0 dX12_sizeOf_30 (by decide) ?_
          refine z_icmp_ne C0 39 dX12_sizeOf_31 (by decide) (fun c11 => ?_) (fun c11 => ?_)
          · have h := zif_t c11 h
            refine z_bipush (v := (25 : Int32)) C0 dX12_sizeOf_39 (by decide) ?_
            refine z_sub (lo1 := []) [] rfl ?_
            obtain rfl := h
            exact k_J5
          · have h := zif_f (fun q => q c11) h
            refine z_bipush (v := (9 : Int32)) C0 dX12_sizeOf_34 (by decide) ?_
            refine z_goto C0 41 dX12_sizeOf_36 (by decide) ?_
            refine z_sub (lo1 := []) [] rfl ?_
            obtain rfl := h
            exact k_J5
        · have h := zif_f (fun q => q c9) h
          refine z_bipush (v := (17 : Int32)) C0 dX12_sizeOf_24 (by decide) ?_
          refine z_goto C0 41 dX12_sizeOf_26 (by decide) ?_
          refine z_sub (lo1 := []) [] rfl ?_
          obtain rfl := h
          exact k_J5
      · have h := zif_f (fun q => q c6) h
        refine z_bipush (v := (121 : Int32)) C0 dX12_sizeOf_14 (by decide) ?_
        refine z_goto C0 41 dX12_sizeOf_16 (by decide) ?_
        refine z_sub (lo1 := []) [] rfl ?_
        obtain rfl := h
        exact k_J5
    · have h := zif_f (fun q => q c1) h
      refine z_bipush (v := (109 : Int32)) C0 dX12_sizeOf_4 (by decide) ?_
      refine z_goto C0 41 dX12_sizeOf_6 (by decide) ?_
      refine z_sub (lo1 := []) [] rfl ?_
      obtain rfl := h
      exact k_J5
def f_X12_state (a0 : Nat) (v1 : Int32) (v2 : Int32) (v3 : Int32) (v4 : Int32) (μ : zM) : Option (Int32 × zM) :=
  zbd2 (f_X12_isState a0 v1 v2 v3 μ) fun r1 μ2 =>
  if ¬ r1 = 0 then
    zbd (f_X12_isMourner a0 (v4 - (20 : Int32)) μ2) fun r11 =>
    if r11 = 0 then
      zbd (f_X12_isPlace a0 (v4 - (30 : Int32)) μ2) fun r17 =>
      if r17 = 0 then
        if v4 = (0 : Int32) then
          some ((μ2 a0 12), μ2)
        else
        if v4 = (1 : Int32) then
          some ((μ2 a0 13), μ2)
        else
        if v4 = (2 : Int32) then
          some ((μ2 a0 14), μ2)
        else
        if v4 = (3 : Int32) then
          some ((μ2 a0 15), μ2)
        else
        if v4 = (4 : Int32) then
          some ((μ2 a0 16), μ2)
        else
        if v4 = (5 : Int32) then
          zbd (f_X12_allWater a0 μ2) fun r19 =>
          some (r19, μ2)
        else
        if v4 = (6 : Int32) then
          zl (if (μ2 a0 17) = 0 then
              (0 : Int32)
            else
              (1 : Int32)) fun x22 =>
          some (x22, μ2)
        else
        if v4 = (7 : Int32) then
          zl (if (μ2 a0 18) = 0 then
              (0 : Int32)
            else
              (1 : Int32)) fun x25 =>
          some (x25, μ2)
        else
        if v4 = (8 : Int32) then
          zl (if (μ2 a0 19) = 0 then
              (0 : Int32)
            else
              (1 : Int32)) fun x28 =>
          some (x28, μ2)
        else
        if v4 = (9 : Int32) then
          some ((μ2 a0 20), μ2)
        else
        if v4 = (10 : Int32) then
          some ((μ2 a0 21), μ2)
        else
          some ((-2 : Int32), μ2)
      else
        zg (zin (v4 - (30 : Int32)) 16) <|
        some ((μ2 (a0 + 5) ((v4 - (30 : Int32)).toNatClampNeg)), μ2)
    else
      zg (zin (v4 - (20 : Int32)) 5) <|
      some ((μ2 (a0 + 4) ((v4 - (20 : Int32)).toNatClampNeg)), μ2)
  else
    some ((-2 : Int32), μ2)
set_option maxHeartbeats 4000000 in
set_option maxRecDepth 100000 in
theorem r_X12_state {l : Launch} {g : zL} (a0 : Nat) (v1 : Int32) (v2 : Int32) (v3 : Int32) (v4 : Int32) (μ : zM) (hT0 : zT zNN zσ1 a0 12) {rv : Int32} {μr : zM} (h : f_X12_state a0 v1 v2 v3 v4 μ = some (rv, μr)) : zMet l g yX12_state cX12_state 5 (some (.int)) 9 0 0 zNN zNN zσ1 zσ1 [.ref (zb g + a0), .int v1, .int v2, .int v3, .int v4] μ (some (.int rv)) μr := by
  refine zMet.of (by decide +kernel) (Nat.le_of_ble_eq_true rfl) ?_
  intro p e s m args below meth c C0
  refine z_loc (lo1 := [(0, .ref (zb g + a0)), (1, .int v1), (2, .int v2), (3, .int v3), (4, .int v4)]) rfl ?_
  unfold f_X12_state at h
  refine z_aload_n C0 dX12_state_0 rfl 0 rfl ?_
  refine z_iload_n C0 dX12_state_1 rfl 1 rfl ?_
  refine z_iload_n C0 dX12_state_2 rfl 2 rfl ?_
  refine z_iload_n C0 dX12_state_3 rfl 3 rfl ?_
  obtain ⟨r1, μ2, e_r1, h⟩ := zbd2_of h
  refine z_callV (As := [.int v1, .int v2, .int v3]) (rest := []) C0 rfl kc_X12_isState km_RX12_310 (r_X12_isState (l := l) (g := g) a0 v1 v2 v3 μ hT0 e_r1) hT0.1 hT0.2.2.1 rfl (by decide) rfl (Nat.le_of_ble_eq_true rfl) (Nat.le_of_ble_eq_true rfl) (Nat.le_of_ble_eq_true rfl) (Nat.le_of_ble_eq_true rfl) (Nat.le_refl _) rfl rfl dX12_state_4 ?_
  refine z_if_ne C0 13 dX12_state_7 (by decide) (fun c3 => ?_) (fun c3 => ?_)
  · have h := zif_t c3 h
    refine z_aload_n C0 dX12_state_13 rfl 0 rfl ?_
    refine z_iload C0 dX12_state_14 4 rfl ?_
    refine z_bipush (v := (20 : Int32)) C0 dX12_state_16 (by decide) ?_
    refine z_isub C0 dX12_state_18 ?_
    obtain ⟨r11, e_r11, h⟩ := zbd_of h
    refine z_callV (As := [.int (v4 - (20 : Int32))]) (rest := []) C0 rfl kc_X12_isMourner km_RX12_285 (r_X12_isMourner (l := l) (g := g) a0 (v4 - (20 : Int32)) μ2 hT0 e_r11) hT0.1 hT0.2.2.1 rfl (by decide) rfl (Nat.le_of_ble_eq_true rfl) (Nat.le_of_ble_eq_true rfl) (Nat.le_of_ble_eq_true rfl) (Nat.le_of_ble_eq_true rfl) (Nat.le_refl _) rfl rfl dX12_state_19 ?_
    refine z_if_eq C0 36 dX12_state_22 (by decide) (fun c12 => ?_) (fun c12 => ?_)
    · have h := zif_t c12 h
      refine z_aload_n C0 dX12_state_36 rfl 0 rfl ?_
      refine z_iload C0 dX12_state_37 4 rfl ?_
      refine z_bipush (v := (30 : Int32)) C0 dX12_state_39 (by decide) ?_
      refine z_isub C0 dX12_state_41 ?_
      obtain ⟨r17, e_r17, h⟩ := zbd_of h
      refine z_callV (As := [.int (v4 - (30 : Int32))]) (rest := []) C0 rfl kc_X12_isPlace km_RX12_288 (r_X12_isPlace (l := l) (g := g) a0 (v4 - (30 : Int32)) μ2 hT0 e_r17) hT0.1 hT0.2.2.1 rfl (by decide) rfl (Nat.le_of_ble_eq_true rfl) (Nat.le_of_ble_eq_true rfl) (Nat.le_of_ble_eq_true rfl) (Nat.le_of_ble_eq_true rfl) (Nat.le_refl _) rfl rfl dX12_state_42 ?_
      refine z_if_eq C0 59 dX12_state_45 (by decide) (fun c18 => ?_) (fun c18 => ?_)
      · have h := zif_t c18 h
        refine z_iload C0 dX12_state_59 4 rfl ?_
        by_cases c31 : v4 = (0 : Int32)
        · have h := zif_t c31 h
          refine z_tabK C0 (59) 120 dX12_state_61 c31 (by decide) (by decide) (by decide) (by decide) ?_
          refine z_aload_n C0 dX12_state_120 rfl 0 rfl ?_
          refine z_geti C0 hT0.1 hT0.2.2.1 kf_12_218 zr_12_12 dX12_state_121 ?_
          have h := Option.some.inj h
          obtain ⟨rfl, rfl⟩ := Prod.mk.inj h
          exact z_iret C0 rfl dX12_state_124
        · have h := zif_f c31 h
          by_cases c32 : v4 = (1 : Int32)
          · have h := zif_t c32 h
            refine z_tabK C0 (64) 125 dX12_state_61 c32 (by decide) (by decide) (by decide) (by decide) ?_
            refine z_aload_n C0 dX12_state_125 rfl 0 rfl ?_
            refine z_geti C0 hT0.1 hT0.2.2.1 kf_12_221 zr_12_13 dX12_state_126 ?_
            have h := Option.some.inj h
            obtain ⟨rfl, rfl⟩ := Prod.mk.inj h
            exact z_iret C0 rfl dX12_state_129
          · have h := zif_f c32 h
            by_cases c33 : v4 = (2 : Int32)
            · have h := zif_t c33 h
              refine z_tabK C0 (69) 130 dX12_state_61 c33 (by decide) (by decide) (by decide) (by decide) ?_
              refine z_aload_n C0 dX12_state_130 rfl 0 rfl ?_
              refine z_geti C0 hT0.1 hT0.2.2.1 kf_12_224 zr_12_14 dX12_state_131 ?_
              have h := Option.some.inj h
              obtain ⟨rfl, rfl⟩ := Prod.mk.inj h
              exact z_iret C0 rfl dX12_state_134
            · have h := zif_f c33 h
              by_cases c34 : v4 = (3 : Int32)
              · have h := zif_t c34 h
                refine z_tabK C0 (74) 135 dX12_state_61 c34 (by decide) (by decide) (by decide) (by decide) ?_
                refine z_aload_n C0 dX12_state_135 rfl 0 rfl ?_
                refine z_geti C0 hT0.1 hT0.2.2.1 kf_12_227 zr_12_15 dX12_state_136 ?_
                have h := Option.some.inj h
                obtain ⟨rfl, rfl⟩ := Prod.mk.inj h
                exact z_iret C0 rfl dX12_state_139
              · have h := zif_f c34 h
                by_cases c35 : v4 = (4 : Int32)
                · have h := zif_t c35 h
                  refine z_tabK C0 (79) 140 dX12_state_61 c35 (by decide) (by decide) (by decide) (by decide) ?_
                  refine z_aload_n C0 dX12_state_140 rfl 0 rfl ?_
                  refine z_geti C0 hT0.1 hT0.2.2.1 kf_12_233 zr_12_16 dX12_state_141 ?_
                  have h := Option.some.inj h
                  obtain ⟨rfl, rfl⟩ := Prod.mk.inj h
                  exact z_iret C0 rfl dX12_state_144
                · have h := zif_f c35 h
                  by_cases c36 : v4 = (5 : Int32)
                  · have h := zif_t c36 h
                    refine z_tabK C0 (84) 145 dX12_state_61 c36 (by decide) (by decide) (by decide) (by decide) ?_
                    refine z_aload_n C0 dX12_state_145 rfl 0 rfl ?_
                    obtain ⟨r19, e_r19, h⟩ := zbd_of h
                    refine z_callV (As := []) (rest := []) C0 rfl kc_X12_allWater km_RX12_273 (r_X12_allWater (l := l) (g := g) a0 μ2 hT0 e_r19) hT0.1 hT0.2.2.1 rfl (by decide) rfl (Nat.le_of_ble_eq_true rfl) (Nat.le_of_ble_eq_true rfl) (Nat.le_of_ble_eq_true rfl) (Nat.le_of_ble_eq_true rfl) (Nat.le_refl _) rfl rfl dX12_state_146 ?_
                    have h := Option.some.inj h
                    obtain ⟨rfl, rfl⟩ := Prod.mk.inj h
                    exact z_iret C0 rfl dX12_state_149
                  · have h := zif_f c36 h
                    by_cases c37 : v4 = (6 : Int32)
                    · have h := zif_t c37 h
                      refine z_tabK C0 (89) 150 dX12_state_61 c37 (by decide) (by decide) (by decide) (by decide) ?_
                      refine z_aload_n C0 dX12_state_150 rfl 0 rfl ?_
                      refine z_geti C0 hT0.1 hT0.2.2.1 kf_12_236 zr_12_17 dX12_state_151 ?_
                      obtain ⟨x22, e_x22, h⟩ := zl_of h
                      refine z_join μ2 162 [] [.int x22] ?_ (fun k_J21 => ?_)
                      · have h := Option.some.inj h
                        obtain ⟨rfl, rfl⟩ := Prod.mk.inj h
                        exact z_iret C0 rfl dX12_state_162
                      · have h := e_x22.symm
                        refine z_if_eq C0 161 dX12_state_154 (by decide) (fun c20 => ?_) (fun c20 => ?_)
                        · have h := zif_t c20 h
                          refine z_iconst (v := (0 : Int32)) C0 dX12_state_161 (by decide) ?_
                          refine z_sub (lo1 := []) [] rfl ?_
                          obtain rfl := h
                          exact k_J21
                        · have h := zif_f c20 h
                          refine z_iconst (v := (1 : Int32)) C0 dX12_state_157 (by decide) ?_
                          refine z_goto C0 162 dX12_state_158 (by decide) ?_
                          refine z_sub (lo1 := []) [] rfl ?_
                          obtain rfl := h
                          exact k_J21
                    · have h := zif_f c37 h
                      by_cases c38 : v4 = (7 : Int32)
                      · have h := zif_t c38 h
                        refine z_tabK C0 (102) 163 dX12_state_61 c38 (by decide) (by decide) (by decide) (by decide) ?_
                        refine z_aload_n C0 dX12_state_163 rfl 0 rfl ?_
                        refine z_geti C0 hT0.1 hT0.2.2.1 kf_12_239 zr_12_18 dX12_state_164 ?_
                        obtain ⟨x25, e_x25, h⟩ := zl_of h
                        refine z_join μ2 175 [] [.int x25] ?_ (fun k_J24 => ?_)
                        · have h := Option.some.inj h
                          obtain ⟨rfl, rfl⟩ := Prod.mk.inj h
                          exact z_iret C0 rfl dX12_state_175
                        · have h := e_x25.symm
                          refine z_if_eq C0 174 dX12_state_167 (by decide) (fun c23 => ?_) (fun c23 => ?_)
                          · have h := zif_t c23 h
                            refine z_iconst (v := (0 : Int32)) C0 dX12_state_174 (by decide) ?_
                            refine z_sub (lo1 := []) [] rfl ?_
                            obtain rfl := h
                            exact k_J24
                          · have h := zif_f c23 h
                            refine z_iconst (v := (1 : Int32)) C0 dX12_state_170 (by decide) ?_
                            refine z_goto C0 175 dX12_state_171 (by decide) ?_
                            refine z_sub (lo1 := []) [] rfl ?_
                            obtain rfl := h
                            exact k_J24
                      · have h := zif_f c38 h
                        by_cases c39 : v4 = (8 : Int32)
                        · have h := zif_t c39 h
                          refine z_tabK C0 (115) 176 dX12_state_61 c39 (by decide) (by decide) (by decide) (by decide) ?_
                          refine z_aload_n C0 dX12_state_176 rfl 0 rfl ?_
                          refine z_geti C0 hT0.1 hT0.2.2.1 kf_12_242 zr_12_19 dX12_state_177 ?_
                          obtain ⟨x28, e_x28, h⟩ := zl_of h
                          refine z_join μ2 188 [] [.int x28] ?_ (fun k_J27 => ?_)
                          · have h := Option.some.inj h
                            obtain ⟨rfl, rfl⟩ := Prod.mk.inj h
                            exact z_iret C0 rfl dX12_state_188
                          · have h := e_x28.symm
                            refine z_if_eq C0 187 dX12_state_180 (by decide) (fun c26 => ?_) (fun c26 => ?_)
                            · have h := zif_t c26 h
                              refine z_iconst (v := (0 : Int32)) C0 dX12_state_187 (by decide) ?_
                              refine z_sub (lo1 := []) [] rfl ?_
                              obtain rfl := h
                              exact k_J27
                            · have h := zif_f c26 h
                              refine z_iconst (v := (1 : Int32)) C0 dX12_state_183 (by decide) ?_
                              refine z_goto C0 188 dX12_state_184 (by decide) ?_
                              refine z_sub (lo1 := []) [] rfl ?_
                              obtain rfl := h
                              exact k_J27
                        · have h := zif_f c39 h
                          by_cases c40 : v4 = (9 : Int32)
                          · have h := zif_t c40 h
                            refine z_tabK C0 (128) 189 dX12_state_61 c40 (by decide) (by decide) (by decide) (by decide) ?_
                            refine z_aload_n C0 dX12_state_189 rfl 0 rfl ?_
                            refine z_geti C0 hT0.1 hT0.2.2.1 kf_12_245 zr_12_20 dX12_state_190 ?_
                            have h := Option.some.inj h
                            obtain ⟨rfl, rfl⟩ := Prod.mk.inj h
                            exact z_iret C0 rfl dX12_state_193
                          · have h := zif_f c40 h
                            by_cases c41 : v4 = (10 : Int32)
                            · have h := zif_t c41 h
                              refine z_tabK C0 (133) 194 dX12_state_61 c41 (by decide) (by decide) (by decide) (by decide) ?_
                              refine z_aload_n C0 dX12_state_194 rfl 0 rfl ?_
                              refine z_geti C0 hT0.1 hT0.2.2.1 kf_12_248 zr_12_21 dX12_state_195 ?_
                              have h := Option.some.inj h
                              obtain ⟨rfl, rfl⟩ := Prod.mk.inj h
                              exact z_iret C0 rfl dX12_state_198
                            · have h := zif_f c41 h
                              refine z_join μ2 199 [(0, .ref (zb g + a0)), (1, .int v1), (2, .int v2), (3, .int v3), (4, .int v4)] [] ?_ (fun k42 => ?_)
                              · refine z_bipush (v := (-2 : Int32)) C0 dX12_state_199 (by decide) ?_
                                have h := Option.some.inj h
                                obtain ⟨rfl, rfl⟩ := Prod.mk.inj h
                                exact z_iret C0 rfl dX12_state_201
                              · have c31 : v4.toInt ≠ 0 := fun q => c31 (Int32.toInt_inj.mp (q.trans (by decide)))
                                have c32 : v4.toInt ≠ 1 := fun q => c32 (Int32.toInt_inj.mp (q.trans (by decide)))
                                have c33 : v4.toInt ≠ 2 := fun q => c33 (Int32.toInt_inj.mp (q.trans (by decide)))
                                have c34 : v4.toInt ≠ 3 := fun q => c34 (Int32.toInt_inj.mp (q.trans (by decide)))
                                have c35 : v4.toInt ≠ 4 := fun q => c35 (Int32.toInt_inj.mp (q.trans (by decide)))
                                have c36 : v4.toInt ≠ 5 := fun q => c36 (Int32.toInt_inj.mp (q.trans (by decide)))
                                have c37 : v4.toInt ≠ 6 := fun q => c37 (Int32.toInt_inj.mp (q.trans (by decide)))
                                have c38 : v4.toInt ≠ 7 := fun q => c38 (Int32.toInt_inj.mp (q.trans (by decide)))
                                have c39 : v4.toInt ≠ 8 := fun q => c39 (Int32.toInt_inj.mp (q.trans (by decide)))
                                have c40 : v4.toInt ≠ 9 := fun q => c40 (Int32.toInt_inj.mp (q.trans (by decide)))
                                have c41 : v4.toInt ≠ 10 := fun q => c41 (Int32.toInt_inj.mp (q.trans (by decide)))
                                exact z_tabOut C0 199 dX12_state_61 (by omega) (by decide) k42
      · have h := zif_f c18 h
        refine z_aload_n C0 dX12_state_48 rfl 0 rfl ?_
        refine z_getr C0 hT0 kf_12_23 zr_12_24 zx_12 (zs_12_24 hT0).1 dX12_state_49 ?_
        refine z_iload C0 dX12_state_52 4 rfl ?_
        refine z_bipush (v := (30 : Int32)) C0 dX12_state_54 (by decide) ?_
        refine z_isub C0 dX12_state_56 ?_
        obtain ⟨g29, h⟩ := zg_of h
        refine z_iald C0 (zs_12_24 hT0).2 g29 rfl dX12_state_57 ?_
        have h := Option.some.inj h
        obtain ⟨rfl, rfl⟩ := Prod.mk.inj h
        exact z_iret C0 rfl dX12_state_58
    · have h := zif_f c12 h
      refine z_aload_n C0 dX12_state_25 rfl 0 rfl ?_
      refine z_getr C0 hT0 kf_12_20 zr_12_23 zx_12 (zs_12_23 hT0).1 dX12_state_26 ?_
      refine z_iload C0 dX12_state_29 4 rfl ?_
      refine z_bipush (v := (20 : Int32)) C0 dX12_state_31 (by decide) ?_
      refine z_isub C0 dX12_state_33 ?_
      obtain ⟨g30, h⟩ := zg_of h
      refine z_iald C0 (zs_12_23 hT0).2 g30 rfl dX12_state_34 ?_
      have h := Option.some.inj h
      obtain ⟨rfl, rfl⟩ := Prod.mk.inj h
      exact z_iret C0 rfl dX12_state_35
  · have h := zif_f (fun q => q c3) h
    refine z_bipush (v := (-2 : Int32)) C0 dX12_state_10 (by decide) ?_
    have h := Option.some.inj h
    obtain ⟨rfl, rfl⟩ := Prod.mk.inj h
    exact z_iret C0 rfl dX12_state_12
def f_X12_stood_L43 (a0 : Nat) (v3 : Int32) : Nat → Int32 → Int32 → Int32 → Int32 → Int32 → zM → Option (Int32 × Int32 × Int32 × Int32 × zM)
  | 0, _, _, _, _, _, _ => none
  | n + 1, y8, y9, y10, y11, y12, μ13 =>
    zbd (f_X12_allWays a0 μ13) fun r14 =>
    if r14 ≤ y12 then
      some (y8, y9, y10, y11, μ13)
    else
      zbd2 (f_X12_fitting a0 y12 μ13) fun r16 μ17 =>
      zl (if r16 ≤ y11 then
          y11
        else
          r16) fun x20 =>
      zbd (f_X12_sights a0 μ17) fun r21 =>
      zbd3 (if r21 ≤ r16 then
          zl (y8 + (1 : Int32)) fun x24 =>
          zbd (f_X12_aboard a0 μ17) fun r25 =>
          zl (y9 &&& r25) fun x26 =>
          zbd (zbd (if y10 < 0 then
                some false
              else
                zbd (f_X12_aboard a0 μ17) fun r30 =>
                zbd (f_X12_bits r30) fun r31 =>
                if y10 ≤ r31 then
                  some true
                else
                  some false) fun b33 =>
            if b33 = true then
              some y10
            else
              zbd (f_X12_aboard a0 μ17) fun r35 =>
              zbd (f_X12_bits r35) fun r36 =>
              some r36) fun x37 =>
          some (x24, x26, x37)
        else
          some (y8, y9, y10)) fun x38 x39 x40 =>
      zl (y12 + (1 : Int32)) fun x41 =>
      f_X12_stood_L43 a0 v3 n x38 x39 x40 x20 x41 μ17
def f_X12_stood (a0 : Nat) (v1 : Int32) (v2 : Int32) (v3 : Int32) (μ : zM) : Option (Int32 × zM) :=
  zbd2 (f_X12_areSeen a0 v1 v2 μ) fun r1 μ2 =>
  if (¬ (r1 = 0)) ∧ (¬ (f_X12_isIn v3 (0 : Int32) (3 : Int32)) = 0) then
    zbd (f_X12_mourners a0 μ2) fun r5 =>
    zl (((1 : Int32) <<< (r5 &&& 31)) - (1 : Int32)) fun x6 =>
    zbd5 (f_X12_stood_L43 a0 v3 zFU (0 : Int32) x6 (-1 : Int32) (0 : Int32) (0 : Int32) μ2) fun x42 x43 x44 x45 μ46 =>
    zl (if ¬ v3 = 0 then
        if ¬ v3 = (1 : Int32) then
          if ¬ v3 = (2 : Int32) then
            x45
          else
            x44
        else
          if ¬ x42 = 0 then
            x43
          else
            (0 : Int32)
      else
        x42) fun x57 =>
    some (x57, μ46)
  else
    some ((-2 : Int32), μ2)
set_option maxHeartbeats 4000000 in
set_option maxRecDepth 100000 in
theorem r_X12_stood_L43 {l : Launch} {g : zL} {p : Program} {e : Env} {s : State} {m : MethodId} {args : Array Value} {below : List Frame} {meth : Method} {c : Code} {Q : State → Prop} (C0 : zC p s m args meth c g cX12_stood yX12_stood 10 (some (.int))) (a0 : Nat) (v3 : Int32) (hU7 : zT zNN zσ1 a0 12) : ∀ (n : Nat) (y8 : Int32) (y9 : Int32) (y10 : Int32) (y11 : Int32) (y12 : Int32) (μ13 : zM) (x42 : Int32) (x43 : Int32) (x44 : Int32) (x45 : Int32) (μ46 : zM), f_X12_stood_L43 a0 v3 n y8 y9 y10 y11 y12 μ13 = some (x42, x43, x44, x45, μ46) → Z p l e (zrm 7 0 0) s m args below meth c g Q 10 zNN 0 0 zσ1 μ46 137 [(3, .int v3), (4, .int x42), (5, .int x43), (6, .int x44), (7, .int x45)] [] → Z p l e (zrm 7 0 0) s m args below meth c g Q 10 zNN 0 0 zσ1 μ13 43 [(0, .ref (zb g + a0)), (3, .int v3), (4, .int y8), (5, .int y9), (6, .int y10), (7, .int y11), (8, .int y12)] [] := by
  intro n
  induction n with
  | zero =>
    intro y8 y9 y10 y11 y12 μ13 x42 x43 x44 x45 μ46 h kx
    rw [f_X12_stood_L43] at h
    cases h
  | succ n ih =>
    intro y8 y9 y10 y11 y12 μ13 x42 x43 x44 x45 μ46 h kx
    rw [f_X12_stood_L43] at h
    refine z_iload C0 dX12_stood_43 6 rfl ?_
    refine z_aload_n C0 dX12_stood_45 rfl 0 rfl ?_
    obtain ⟨r14, e_r14, h⟩ := zbd_of h
    refine z_callV (As := []) (rest := [.int y12]) C0 rfl kc_X12_allWays km_RX12_384 (r_X12_allWays (l := l) (g := g) a0 μ13 hU7 e_r14) hU7.1 hU7.2.2.1 rfl (by decide) rfl (Nat.le_of_ble_eq_true rfl) (Nat.le_of_ble_eq_true rfl) (Nat.le_of_ble_eq_true rfl) (Nat.le_of_ble_eq_true rfl) (Nat.le_refl _) rfl rfl dX12_stood_46 ?_
    refine z_icmp_ge C0 137 dX12_stood_49 (by decide) (fun c15 => ?_) (fun c15 => ?_)
    · have h := zif_t c15 h
      refine z_sub (lo1 := [(3, .int v3), (4, .int y8), (5, .int y9), (6, .int y10), (7, .int y11)]) [1, 2, 3, 4, 5] rfl ?_
      obtain ⟨rfl, h0_⟩ := Prod.mk.inj (Option.some.inj h)
      obtain ⟨rfl, h1_⟩ := Prod.mk.inj h0_
      obtain ⟨rfl, h2_⟩ := Prod.mk.inj h1_
      obtain ⟨rfl, rfl⟩ := Prod.mk.inj h2_
      exact kx
    · have h := zif_f c15 h
      refine z_aload_n C0 dX12_stood_52 rfl 0 rfl ?_
      refine z_iload C0 dX12_stood_53 6 rfl ?_
      obtain ⟨r16, μ17, e_r16, h⟩ := zbd2_of h
      refine z_callV (As := [.int y12]) (rest := []) C0 rfl kc_X12_fitting km_RX12_387 (r_X12_fitting (l := l) (g := g) a0 y12 μ13 hU7 e_r16) hU7.1 hU7.2.2.1 rfl (by decide) rfl (Nat.le_of_ble_eq_true rfl) (Nat.le_of_ble_eq_true rfl) (Nat.le_of_ble_eq_true rfl) (Nat.le_of_ble_eq_true rfl) (Nat.le_refl _) rfl rfl dX12_stood_55 ?_
      refine z_istore (lo1 := [(9, .int r16), (0, .ref (zb g + a0)), (3, .int v3), (4, .int y8), (5, .int y9), (6, .int y10), (7, .int y11), (8, .int y12)]) C0 dX12_stood_58 (by decide) rfl ?_
      refine z_iload C0 dX12_stood_60 0 rfl ?_
      refine z_iload C0 dX12_stood_62 6 rfl ?_
      obtain ⟨x20, e_x20, h⟩ := zl_of h
      refine z_join μ17 74 [(0, .ref (zb g + a0)), (3, .int v3), (4, .int y8), (5, .int y9), (6, .int y10), (8, .int y12), (9, .int r16)] [.int x20] ?_ (fun k_J19 => ?_)
      · refine z_istore (lo1 := [(7, .int x20), (0, .ref (zb g + a0)), (3, .int v3), (4, .int y8), (5, .int y9), (6, .int y10), (8, .int y12), (9, .int r16)]) C0 dX12_stood_74 (by decide) rfl ?_
        refine z_iload C0 dX12_stood_76 7 rfl ?_
        refine z_aload_n C0 dX12_stood_78 rfl 1 rfl ?_
        obtain ⟨r21, e_r21, h⟩ := zbd_of h
        refine z_callV (As := []) (rest := [.int r16]) C0 rfl kc_X12_sights km_RX12_369 (r_X12_sights (l := l) (g := g) a0 μ17 hU7 e_r21) hU7.1 hU7.2.2.1 rfl (by decide) rfl (Nat.le_of_ble_eq_true rfl) (Nat.le_of_ble_eq_true rfl) (Nat.le_of_ble_eq_true rfl) (Nat.le_of_ble_eq_true rfl) (Nat.le_refl _) rfl rfl dX12_stood_79 ?_
        obtain ⟨x38, x39, x40, e_x38, h⟩ := zbd3_of h
        refine z_join μ17 131 [(0, .ref (zb g + a0)), (3, .int v3), (4, .int x38), (5, .int x39), (6, .int x40), (7, .int x20), (8, .int y12)] [] ?_ (fun k_J23 => ?_)
        · obtain ⟨x41, e_x41, h⟩ := zl_of h
          refine z_iinc (lo1 := [(8, .int x41), (0, .ref (zb g + a0)), (3, .int v3), (4, .int x38), (5, .int x39), (6, .int x40), (7, .int x20)]) C0 dX12_stood_131 6 rfl (by decide) e_x41.symm (by decide) rfl ?_
          refine z_goto C0 43 dX12_stood_134 (by decide) ?_
          refine z_sub (lo1 := [(0, .ref (zb g + a0)), (3, .int v3), (4, .int x38), (5, .int x39), (6, .int x40), (7, .int x20), (8, .int x41)]) [1, 2, 3, 4, 5, 6, 0] rfl ?_
          exact ih _ _ _ _ _ _ _ _ _ _ _ h kx
        · have h := e_x38
          refine z_icmp_ge C0 88 dX12_stood_82 (by decide) (fun c22 => ?_) (fun c22 => ?_)
          · have h := zif_t c22 h
            obtain ⟨x24, e_x24, h⟩ := zl_of h
            refine z_iinc (lo1 := [(4, .int x24), (7, .int x20), (0, .ref (zb g + a0)), (3, .int v3), (5, .int y9), (6, .int y10), (8, .int y12), (9, .int r16)]) C0 dX12_stood_88 3 rfl (by decide) e_x24.symm (by decide) rfl ?_
            refine z_iload C0 dX12_stood_91 4 rfl ?_
            refine z_aload_n C0 dX12_stood_93 rfl 2 rfl ?_
            obtain ⟨r25, e_r25, h⟩ := zbd_of h
            refine z_callV (As := []) (rest := [.int y9]) C0 rfl kc_X12_aboard km_RX12_390 (r_X12_aboard (l := l) (g := g) a0 μ17 hU7 e_r25) hU7.1 hU7.2.2.1 rfl (by decide) rfl (Nat.le_of_ble_eq_true rfl) (Nat.le_of_ble_eq_true rfl) (Nat.le_of_ble_eq_true rfl) (Nat.le_of_ble_eq_true rfl) (Nat.le_refl _) rfl rfl dX12_stood_94 ?_
            refine z_iand C0 dX12_stood_97 ?_
            obtain ⟨x26, e_x26, h⟩ := zl_of h
            refine z_nm e_x26 ?_
            refine z_istore (lo1 := [(5, .int x26), (4, .int x24), (7, .int x20), (0, .ref (zb g + a0)), (3, .int v3), (6, .int y10), (8, .int y12), (9, .int r16)]) C0 dX12_stood_98 (by decide) rfl ?_
            refine z_iload C0 dX12_stood_100 5 rfl ?_
            obtain ⟨x37, e_x37, h⟩ := zbd_of h
            refine z_join μ17 129 [(0, .ref (zb g + a0)), (3, .int v3), (4, .int x24), (5, .int x26), (7, .int x20), (8, .int y12)] [.int x37] ?_ (fun k_J34 => ?_)
            · refine z_istore (lo1 := [(6, .int x37), (0, .ref (zb g + a0)), (3, .int v3), (4, .int x24), (5, .int x26), (7, .int x20), (8, .int y12)]) C0 dX12_stood_129 (by decide) rfl ?_
              refine z_sub (lo1 := [(0, .ref (zb g + a0)), (3, .int v3), (4, .int x24), (5, .int x26), (6, .int x37), (7, .int x20), (8, .int y12)]) [1, 2, 3, 4, 0, 5, 6] rfl ?_
              obtain ⟨rfl, h0_⟩ := Prod.mk.inj (Option.some.inj h)
              obtain ⟨rfl, rfl⟩ := Prod.mk.inj h0_
              exact k_J23
            · have h := e_x37
              obtain ⟨b33, e_b33, h⟩ := zbd_of h
              refine z_joinb b33 μ17 127 117 [(5, .int x26), (4, .int x24), (7, .int x20), (0, .ref (zb g + a0)), (3, .int v3), (6, .int y10), (8, .int y12), (9, .int r16)] [] (fun z60 => ?_) (fun z60 => ?_) (fun k58 k59 => ?_)
              · have h := zif_t z60 h
                refine z_iload C0 dX12_stood_127 5 rfl ?_
                refine z_sub (lo1 := [(0, .ref (zb g + a0)), (3, .int v3), (4, .int x24), (5, .int x26), (7, .int x20), (8, .int y12)]) [3, 4, 1, 0, 2, 6] rfl ?_
                obtain rfl := (Option.some.inj h)
                exact k_J34
              · have h := zif_f (fun q => Bool.noConfusion (z60.symm.trans q)) h
                refine z_aload_n C0 dX12_stood_117 rfl 3 rfl ?_
                obtain ⟨r35, e_r35, h⟩ := zbd_of h
                refine z_callV (As := []) (rest := []) C0 rfl kc_X12_aboard km_RX12_390 (r_X12_aboard (l := l) (g := g) a0 μ17 hU7 e_r35) hU7.1 hU7.2.2.1 rfl (by decide) rfl (Nat.le_of_ble_eq_true rfl) (Nat.le_of_ble_eq_true rfl) (Nat.le_of_ble_eq_true rfl) (Nat.le_of_ble_eq_true rfl) (Nat.le_refl _) rfl rfl dX12_stood_118 ?_
                obtain ⟨r36, e_r36, h⟩ := zbd_of h
                refine z_callS (As := [.int r35]) (rest := []) C0 rfl kc_X12_bits km_RX12_393 (r_X12_bits (l := l) (g := g) (μ := μ17) r35 e_r36) rfl (Nat.le_of_ble_eq_true rfl) (Nat.le_of_ble_eq_true rfl) (Nat.le_of_ble_eq_true rfl) (Nat.le_of_ble_eq_true rfl) (Nat.le_refl _) rfl rfl dX12_stood_121 ?_
                refine z_goto C0 129 dX12_stood_124 (by decide) ?_
                refine z_sub (lo1 := [(0, .ref (zb g + a0)), (3, .int v3), (4, .int x24), (5, .int x26), (7, .int x20), (8, .int y12)]) [3, 4, 1, 0, 2, 6] rfl ?_
                obtain rfl := (Option.some.inj h)
                exact k_J34
              · have h := e_b33
                refine z_if_lt C0 117 dX12_stood_102 (by decide) (fun c27 => ?_) (fun c27 => ?_)
                · have h := zif_t c27 h
                  exact k59 (Option.some.inj h).symm
                · have h := zif_f c27 h
                  refine z_aload_n C0 dX12_stood_105 rfl 3 rfl ?_
                  obtain ⟨r30, e_r30, h⟩ := zbd_of h
                  refine z_callV (As := []) (rest := []) C0 rfl kc_X12_aboard km_RX12_390 (r_X12_aboard (l := l) (g := g) a0 μ17 hU7 e_r30) hU7.1 hU7.2.2.1 rfl (by decide) rfl (Nat.le_of_ble_eq_true rfl) (Nat.le_of_ble_eq_true rfl) (Nat.le_of_ble_eq_true rfl) (Nat.le_of_ble_eq_true rfl) (Nat.le_refl _) rfl rfl dX12_stood_106 ?_
                  obtain ⟨r31, e_r31, h⟩ := zbd_of h
                  refine z_callS (As := [.int r30]) (rest := []) C0 rfl kc_X12_bits km_RX12_393 (r_X12_bits (l := l) (g := g) (μ := μ17) r30 e_r31) rfl (Nat.le_of_ble_eq_true rfl) (Nat.le_of_ble_eq_true rfl) (Nat.le_of_ble_eq_true rfl) (Nat.le_of_ble_eq_true rfl) (Nat.le_refl _) rfl rfl dX12_stood_109 ?_
                  refine z_iload C0 dX12_stood_112 5 rfl ?_
                  refine z_icmp_ge C0 127 dX12_stood_114 (by decide) (fun c32 => ?_) (fun c32 => ?_)
                  · have h := zif_t c32 h
                    exact k58 (Option.some.inj h).symm
                  · have h := zif_f c32 h
                    exact k59 (Option.some.inj h).symm
          · have h := zif_f c22 h
            refine z_goto C0 131 dX12_stood_85 (by decide) ?_
            refine z_sub (lo1 := [(0, .ref (zb g + a0)), (3, .int v3), (4, .int y8), (5, .int y9), (6, .int y10), (7, .int x20), (8, .int y12)]) [1, 2, 3, 4, 5, 0, 6] rfl ?_
            obtain ⟨rfl, h0_⟩ := Prod.mk.inj (Option.some.inj h)
            obtain ⟨rfl, rfl⟩ := Prod.mk.inj h0_
            exact k_J23
      · have h := e_x20.symm
        refine z_icmp_le C0 72 dX12_stood_64 (by decide) (fun c18 => ?_) (fun c18 => ?_)
        · have h := zif_t c18 h
          refine z_iload C0 dX12_stood_72 6 rfl ?_
          refine z_sub (lo1 := [(0, .ref (zb g + a0)), (3, .int v3), (4, .int y8), (5, .int y9), (6, .int y10), (8, .int y12), (9, .int r16)]) [1, 2, 3, 4, 5, 7, 0] rfl ?_
          obtain rfl := h
          exact k_J19
        · have h := zif_f c18 h
          refine z_iload C0 dX12_stood_67 0 rfl ?_
          refine z_goto C0 74 dX12_stood_69 (by decide) ?_
          refine z_sub (lo1 := [(0, .ref (zb g + a0)), (3, .int v3), (4, .int y8), (5, .int y9), (6, .int y10), (8, .int y12), (9, .int r16)]) [1, 2, 3, 4, 5, 7, 0] rfl ?_
          obtain rfl := h
          exact k_J19
set_option maxHeartbeats 4000000 in
set_option maxRecDepth 100000 in
theorem r_X12_stood {l : Launch} {g : zL} (a0 : Nat) (v1 : Int32) (v2 : Int32) (v3 : Int32) (μ : zM) (hT0 : zT zNN zσ1 a0 12) {rv : Int32} {μr : zM} (h : f_X12_stood a0 v1 v2 v3 μ = some (rv, μr)) : zMet l g yX12_stood cX12_stood 10 (some (.int)) 7 0 0 zNN zNN zσ1 zσ1 [.ref (zb g + a0), .int v1, .int v2, .int v3] μ (some (.int rv)) μr := by
  refine zMet.of (by decide +kernel) (Nat.le_of_ble_eq_true rfl) ?_
  intro p e s m args below meth c C0
  refine z_loc (lo1 := [(0, .ref (zb g + a0)), (1, .int v1), (2, .int v2), (3, .int v3)]) rfl ?_
  unfold f_X12_stood at h
  refine z_aload_n C0 dX12_stood_0 rfl 0 rfl ?_
  refine z_iload_n C0 dX12_stood_1 rfl 1 rfl ?_
  refine z_iload_n C0 dX12_stood_2 rfl 2 rfl ?_
  obtain ⟨r1, μ2, e_r1, h⟩ := zbd2_of h
  refine z_callV (As := [.int v1, .int v2]) (rest := []) C0 rfl kc_X12_areSeen km_RX12_381 (r_X12_areSeen (l := l) (g := g) a0 v1 v2 μ hT0 e_r1) hT0.1 hT0.2.2.1 rfl (by decide) rfl (Nat.le_of_ble_eq_true rfl) (Nat.le_of_ble_eq_true rfl) (Nat.le_of_ble_eq_true rfl) (Nat.le_of_ble_eq_true rfl) (Nat.le_refl _) rfl rfl dX12_stood_3 ?_
  by_cases hc61 : (¬ (r1 = 0)) ∧ (¬ (f_X12_isIn v3 (0 : Int32) (3 : Int32)) = 0)
  · have h := zif_t hc61 h
    refine z_join μ2 21 [(0, .ref (zb g + a0)), (1, .int v1), (2, .int v2), (3, .int v3)] [] ?_ (fun k62 => ?_)
    · refine z_iconst (v := (0 : Int32)) C0 dX12_stood_21 (by decide) ?_
      refine z_istore (lo1 := [(4, .int (0 : Int32)), (0, .ref (zb g + a0)), (1, .int v1), (2, .int v2), (3, .int v3)]) C0 dX12_stood_22 (by decide) rfl ?_
      refine z_iconst (v := (1 : Int32)) C0 dX12_stood_24 (by decide) ?_
      refine z_aload_n C0 dX12_stood_25 rfl 1 rfl ?_
      obtain ⟨r5, e_r5, h⟩ := zbd_of h
      refine z_callV (As := []) (rest := [.int (1 : Int32)]) C0 rfl kc_X12_mourners km_RX12_183 (r_X12_mourners (l := l) (g := g) a0 μ2 hT0 e_r5) hT0.1 hT0.2.2.1 rfl (by decide) rfl (Nat.le_of_ble_eq_true rfl) (Nat.le_of_ble_eq_true rfl) (Nat.le_of_ble_eq_true rfl) (Nat.le_of_ble_eq_true rfl) (Nat.le_refl _) rfl rfl dX12_stood_26 ?_
      refine z_ishl C0 dX12_stood_29 ?_
      refine z_iconst (v := (1 : Int32)) C0 dX12_stood_30 (by decide) ?_
      refine z_isub C0 dX12_stood_31 ?_
      obtain ⟨x6, e_x6, h⟩ := zl_of h
      refine z_nm e_x6 ?_
      refine z_istore (lo1 := [(5, .int x6), (4, .int (0 : Int32)), (0, .ref (zb g + a0)), (1, .int v1), (2, .int v2), (3, .int v3)]) C0 dX12_stood_32 (by decide) rfl ?_
      refine z_iconst (v := (-1 : Int32)) C0 dX12_stood_34 (by decide) ?_
      refine z_istore (lo1 := [(6, .int (-1 : Int32)), (5, .int x6), (4, .int (0 : Int32)), (0, .ref (zb g + a0)), (1, .int v1), (2, .int v2), (3, .int v3)]) C0 dX12_stood_35 (by decide) rfl ?_
      refine z_iconst (v := (0 : Int32)) C0 dX12_stood_37 (by decide) ?_
      refine z_istore (lo1 := [(7, .int (0 : Int32)), (6, .int (-1 : Int32)), (5, .int x6), (4, .int (0 : Int32)), (0, .ref (zb g + a0)), (1, .int v1), (2, .int v2), (3, .int v3)]) C0 dX12_stood_38 (by decide) rfl ?_
      refine z_iconst (v := (0 : Int32)) C0 dX12_stood_40 (by decide) ?_
      refine z_istore (lo1 := [(8, .int (0 : Int32)), (7, .int (0 : Int32)), (6, .int (-1 : Int32)), (5, .int x6), (4, .int (0 : Int32)), (0, .ref (zb g + a0)), (1, .int v1), (2, .int v2), (3, .int v3)]) C0 dX12_stood_41 (by decide) rfl ?_
      refine z_sub (lo1 := [(0, .ref (zb g + a0)), (3, .int v3), (4, .int (0 : Int32)), (5, .int x6), (6, .int (-1 : Int32)), (7, .int (0 : Int32)), (8, .int (0 : Int32))]) [5, 8, 4, 3, 2, 1, 0] rfl ?_
      obtain ⟨x42, x43, x44, x45, μ46, e_x42, h⟩ := zbd5_of h
      refine r_X12_stood_L43 C0 a0 v3 hT0 zFU (0 : Int32) x6 (-1 : Int32) (0 : Int32) (0 : Int32) μ2 x42 x43 x44 x45 μ46 e_x42 ?_
      refine z_iload_n C0 dX12_stood_137 rfl 0 rfl ?_
      obtain ⟨x57, e_x57, h⟩ := zl_of h
      refine z_join μ46 177 [] [.int x57] ?_ (fun k_J51 => ?_)
      · have h := Option.some.inj h
        obtain ⟨rfl, rfl⟩ := Prod.mk.inj h
        exact z_iret C0 rfl dX12_stood_177
      · have h := e_x57.symm
        refine z_if_ne C0 146 dX12_stood_138 (by decide) (fun c47 => ?_) (fun c47 => ?_)
        · have h := zif_t c47 h
          refine z_iload_n C0 dX12_stood_146 rfl 0 rfl ?_
          refine z_iconst (v := (1 : Int32)) C0 dX12_stood_147 (by decide) ?_
          refine z_icmp_ne C0 165 dX12_stood_148 (by decide) (fun c52 => ?_) (fun c52 => ?_)
          · have h := zif_t c52 h
            refine z_iload_n C0 dX12_stood_165 rfl 0 rfl ?_
            refine z_iconst (v := (2 : Int32)) C0 dX12_stood_166 (by decide) ?_
            refine z_icmp_ne C0 175 dX12_stood_167 (by decide) (fun c55 => ?_) (fun c55 => ?_)
            · have h := zif_t c55 h
              refine z_iload C0 dX12_stood_175 4 rfl ?_
              refine z_sub (lo1 := []) [] rfl ?_
              obtain rfl := h
              exact k_J51
            · have h := zif_f (fun q => q c55) h
              refine z_iload C0 dX12_stood_170 3 rfl ?_
              refine z_goto C0 177 dX12_stood_172 (by decide) ?_
              refine z_sub (lo1 := []) [] rfl ?_
              obtain rfl := h
              exact k_J51
          · have h := zif_f (fun q => q c52) h
            refine z_iload C0 dX12_stood_151 1 rfl ?_
            refine z_if_ne C0 160 dX12_stood_153 (by decide) (fun c56 => ?_) (fun c56 => ?_)
            · have h := zif_t c56 h
              refine z_iload C0 dX12_stood_160 2 rfl ?_
              refine z_goto C0 177 dX12_stood_162 (by decide) ?_
              refine z_sub (lo1 := []) [] rfl ?_
              obtain rfl := h
              exact k_J51
            · have h := zif_f (fun q => q c56) h
              refine z_iconst (v := (0 : Int32)) C0 dX12_stood_156 (by decide) ?_
              refine z_goto C0 177 dX12_stood_157 (by decide) ?_
              refine z_sub (lo1 := []) [] rfl ?_
              obtain rfl := h
              exact k_J51
        · have h := zif_f (fun q => q c47) h
          refine z_iload C0 dX12_stood_141 1 rfl ?_
          refine z_goto C0 177 dX12_stood_143 (by decide) ?_
          refine z_sub (lo1 := []) [] rfl ?_
          obtain rfl := h
          exact k_J51
    · refine z_if_eq C0 18 dX12_stood_6 (by decide) (fun c3 => ?_) (fun c3 => ?_)
      · exact absurd hc61 (fun q => q.1 c3)
      · refine z_iload_n C0 dX12_stood_9 rfl 3 rfl ?_
        refine z_iconst (v := (0 : Int32)) C0 dX12_stood_10 (by decide) ?_
        refine z_iconst (v := (3 : Int32)) C0 dX12_stood_11 (by decide) ?_
        refine z_callS (As := [.int v3, .int (0 : Int32), .int (3 : Int32)]) (rest := []) C0 rfl kc_X12_isIn km_RX12_109 (r_X12_isIn (l := l) (g := g) (μ := μ2) v3 (0 : Int32) (3 : Int32) rfl) rfl (Nat.le_of_ble_eq_true rfl) (Nat.le_of_ble_eq_true rfl) (Nat.le_of_ble_eq_true rfl) (Nat.le_of_ble_eq_true rfl) (Nat.le_refl _) rfl rfl dX12_stood_12 ?_
        refine z_if_ne C0 21 dX12_stood_15 (by decide) (fun c4 => ?_) (fun c4 => ?_)
        · exact k62
        · exact absurd hc61 (fun q => (fun q => q c4) q.2)
  · have h := zif_f hc61 h
    refine z_join μ2 18 [(0, .ref (zb g + a0)), (1, .int v1), (2, .int v2), (3, .int v3)] [] ?_ (fun k63 => ?_)
    · refine z_bipush (v := (-2 : Int32)) C0 dX12_stood_18 (by decide) ?_
      have h := Option.some.inj h
      obtain ⟨rfl, rfl⟩ := Prod.mk.inj h
      exact z_iret C0 rfl dX12_stood_20
    · refine z_if_eq C0 18 dX12_stood_6 (by decide) (fun c3 => ?_) (fun c3 => ?_)
      · exact k63
      · refine z_iload_n C0 dX12_stood_9 rfl 3 rfl ?_
        refine z_iconst (v := (0 : Int32)) C0 dX12_stood_10 (by decide) ?_
        refine z_iconst (v := (3 : Int32)) C0 dX12_stood_11 (by decide) ?_
        refine z_callS (As := [.int v3, .int (0 : Int32), .int (3 : Int32)]) (rest := []) C0 rfl kc_X12_isIn km_RX12_109 (r_X12_isIn (l := l) (g := g) (μ := μ2) v3 (0 : Int32) (3 : Int32) rfl) rfl (Nat.le_of_ble_eq_true rfl) (Nat.le_of_ble_eq_true rfl) (Nat.le_of_ble_eq_true rfl) (Nat.le_of_ble_eq_true rfl) (Nat.le_refl _) rfl rfl dX12_stood_12 ?_
        refine z_if_ne C0 21 dX12_stood_15 (by decide) (fun c4 => ?_) (fun c4 => ?_)
        · exact absurd ⟨c3, c4⟩ hc61
        · exact k63
def f_X12_stop (a0 : Nat) (v1 : Int32) (v2 : Int32) (μ : zM) : Option (Int32 × zM) :=
  zbd2 (f_X12_areTold a0 v1 v2 μ) fun r1 μ2 =>
  if ¬ r1 = 0 then
    zbd (f_X12_runs a0 (40 : Int32) μ2) fun μ4 =>
    some ((μ4 a0 22), μ4)
  else
    some ((-1 : Int32), μ2)
set_option maxHeartbeats 4000000 in
set_option maxRecDepth 100000 in
theorem r_X12_stop {l : Launch} {g : zL} (a0 : Nat) (v1 : Int32) (v2 : Int32) (μ : zM) (hT0 : zT zNN zσ1 a0 12) {rv : Int32} {μr : zM} (h : f_X12_stop a0 v1 v2 μ = some (rv, μr)) : zMet l g yX12_stop cX12_stop 3 (some (.int)) 8 0 0 zNN zNN zσ1 zσ1 [.ref (zb g + a0), .int v1, .int v2] μ (some (.int rv)) μr := by
  refine zMet.of (by decide +kernel) (Nat.le_of_ble_eq_true rfl) ?_
  intro p e s m args below meth c C0
  refine z_loc (lo1 := [(0, .ref (zb g + a0)), (1, .int v1), (2, .int v2)]) rfl ?_
  unfold f_X12_stop at h
  refine z_aload_n C0 dX12_stop_0 rfl 0 rfl ?_
  refine z_iload_n C0 dX12_stop_1 rfl 1 rfl ?_
  refine z_iload_n C0 dX12_stop_2 rfl 2 rfl ?_
  obtain ⟨r1, μ2, e_r1, h⟩ := zbd2_of h
  refine z_callV (As := [.int v1, .int v2]) (rest := []) C0 rfl kc_X12_areTold km_RX12_304 (r_X12_areTold (l := l) (g := g) a0 v1 v2 μ hT0 e_r1) hT0.1 hT0.2.2.1 rfl (by decide) rfl (Nat.le_of_ble_eq_true rfl) (Nat.le_of_ble_eq_true rfl) (Nat.le_of_ble_eq_true rfl) (Nat.le_of_ble_eq_true rfl) (Nat.le_refl _) rfl rfl dX12_stop_3 ?_
  refine z_if_ne C0 11 dX12_stop_6 (by decide) (fun c3 => ?_) (fun c3 => ?_)
  · have h := zif_t c3 h
    refine z_aload_n C0 dX12_stop_11 rfl 0 rfl ?_
    refine z_bipush (v := (40 : Int32)) C0 dX12_stop_12 (by decide) ?_
    obtain ⟨μ4, e_μ4, h⟩ := zbd_of h
    refine z_callV (As := [.int (40 : Int32)]) (rest := []) C0 rfl kc_X12_runs km_RX12_307 (r_X12_runs (l := l) (g := g) a0 (40 : Int32) μ2 hT0 e_μ4) hT0.1 hT0.2.2.1 rfl (by decide) rfl (Nat.le_of_ble_eq_true rfl) (Nat.le_of_ble_eq_true rfl) (Nat.le_of_ble_eq_true rfl) (Nat.le_of_ble_eq_true rfl) (Nat.le_refl _) rfl rfl dX12_stop_14 ?_
    refine z_aload_n C0 dX12_stop_17 rfl 0 rfl ?_
    refine z_geti C0 hT0.1 hT0.2.2.1 kf_12_251 zr_12_22 dX12_stop_18 ?_
    have h := Option.some.inj h
    obtain ⟨rfl, rfl⟩ := Prod.mk.inj h
    exact z_iret C0 rfl dX12_stop_21
  · have h := zif_f (fun q => q c3) h
    refine z_iconst (v := (-1 : Int32)) C0 dX12_stop_9 (by decide) ?_
    have h := Option.some.inj h
    obtain ⟨rfl, rfl⟩ := Prod.mk.inj h
    exact z_iret C0 rfl dX12_stop_10
def f_X12_term (a0 : Nat) (v1 : Int32) (v2 : Int32) (v3 : Int32) (μ : zM) : Option (Int32 × zM) :=
  zbd (f_X12_isOf a0 (4 : Int32) v1 μ) fun r1 =>
  if ¬ r1 = 0 then
    zl (zup μ a0 25 (f_X12_placeOf (4 : Int32) v1)) fun μ3 =>
    if ¬ v2 = (-1 : Int32) then
      zg (zin (μ3 a0 25) 4688) <|
      zbd (if (¬ ((f_X12_isIn v2 (0 : Int32) ((μ3 (a0 + 1) ((μ3 a0 25).toNatClampNeg)) - (1 : Int32))) = 0)) ∧ (¬ ((f_X12_isIn v3 (0 : Int32) (2 : Int32)) = 0)) then
          zbd (f_X12_termOf a0 v2 v3 μ3) fun r15 =>
          some r15
        else
          some (-2 : Int32)) fun x16 =>
      some (x16, μ3)
    else
      zbd (if ¬ v3 = 0 then
          some (-2 : Int32)
        else
          zg (zin (μ3 a0 25) 4688) <|
          some (μ3 (a0 + 1) ((μ3 a0 25).toNatClampNeg))) fun x20 =>
      some (x20, μ3)
  else
    some ((-2 : Int32), μ)
set_option maxHeartbeats 4000000 in
set_option maxRecDepth 100000 in
theorem r_X12_term {l : Launch} {g : zL} (a0 : Nat) (v1 : Int32) (v2 : Int32) (v3 : Int32) (μ : zM) (hT0 : zT zNN zσ1 a0 12) {rv : Int32} {μr : zM} (h : f_X12_term a0 v1 v2 v3 μ = some (rv, μr)) : zMet l g yX12_term cX12_term 4 (some (.int)) 2 0 0 zNN zNN zσ1 zσ1 [.ref (zb g + a0), .int v1, .int v2, .int v3] μ (some (.int rv)) μr := by
  refine zMet.of (by decide +kernel) (Nat.le_of_ble_eq_true rfl) ?_
  intro p e s m args below meth c C0
  refine z_loc (lo1 := [(0, .ref (zb g + a0)), (1, .int v1), (2, .int v2), (3, .int v3)]) rfl ?_
  unfold f_X12_term at h
  refine z_aload_n C0 dX12_term_0 rfl 0 rfl ?_
  refine z_iconst (v := (4 : Int32)) C0 dX12_term_1 (by decide) ?_
  refine z_iload_n C0 dX12_term_2 rfl 1 rfl ?_
  obtain ⟨r1, e_r1, h⟩ := zbd_of h
  refine z_callV (As := [.int (4 : Int32), .int v1]) (rest := []) C0 rfl kc_X12_isOf km_RX12_144 (r_X12_isOf (l := l) (g := g) a0 (4 : Int32) v1 μ hT0 e_r1) hT0.1 hT0.2.2.1 rfl (by decide) rfl (Nat.le_of_ble_eq_true rfl) (Nat.le_of_ble_eq_true rfl) (Nat.le_of_ble_eq_true rfl) (Nat.le_of_ble_eq_true rfl) (Nat.le_refl _) rfl rfl dX12_term_3 ?_
  refine z_if_ne C0 12 dX12_term_6 (by decide) (fun c2 => ?_) (fun c2 => ?_)
  · have h := zif_t c2 h
    refine z_aload_n C0 dX12_term_12 rfl 0 rfl ?_
    refine z_iconst (v := (4 : Int32)) C0 dX12_term_13 (by decide) ?_
    refine z_iload_n C0 dX12_term_14 rfl 1 rfl ?_
    refine z_callS (As := [.int (4 : Int32), .int v1]) (rest := [.ref (zb g + a0)]) C0 rfl kc_X12_placeOf km_RX12_174 (r_X12_placeOf (l := l) (g := g) (μ := μ) (4 : Int32) v1 rfl) rfl (Nat.le_of_ble_eq_true rfl) (Nat.le_of_ble_eq_true rfl) (Nat.le_of_ble_eq_true rfl) (Nat.le_of_ble_eq_true rfl) (Nat.le_refl _) rfl rfl dX12_term_15 ?_
    obtain ⟨μ3, e_μ3, h⟩ := zl_of h
    refine z_puti C0 hT0.1 hT0.2.2.1 kf_12_323 zp_12_25 zr_12_25 e_μ3 dX12_term_18 ?_
    refine z_iload_n C0 dX12_term_21 rfl 2 rfl ?_
    refine z_iconst (v := (-1 : Int32)) C0 dX12_term_22 (by decide) ?_
    refine z_icmp_ne C0 45 dX12_term_23 (by decide) (fun c4 => ?_) (fun c4 => ?_)
    · have h := zif_t c4 h
      refine z_iload_n C0 dX12_term_45 rfl 2 rfl ?_
      refine z_iconst (v := (0 : Int32)) C0 dX12_term_46 (by decide) ?_
      refine z_aload_n C0 dX12_term_47 rfl 0 rfl ?_
      refine z_getr C0 hT0 kf_12_7 zr_12_0 zx_12 (zs_12_0 hT0).1 dX12_term_48 ?_
      refine z_aload_n C0 dX12_term_51 rfl 0 rfl ?_
      refine z_geti C0 hT0.1 hT0.2.2.1 kf_12_323 zr_12_25 dX12_term_52 ?_
      obtain ⟨g11, h⟩ := zg_of h
      refine z_iald C0 (zs_12_0 hT0).2 g11 rfl dX12_term_55 ?_
      refine z_iconst (v := (1 : Int32)) C0 dX12_term_56 (by decide) ?_
      refine z_isub C0 dX12_term_57 ?_
      refine z_callS (As := [.int v2, .int (0 : Int32), .int ((μ3 (a0 + 1) ((μ3 a0 25).toNatClampNeg)) - (1 : Int32))]) (rest := []) C0 rfl kc_X12_isIn km_RX12_109 (r_X12_isIn (l := l) (g := g) (μ := μ3) v2 (0 : Int32) ((μ3 (a0 + 1) ((μ3 a0 25).toNatClampNeg)) - (1 : Int32)) rfl) rfl (Nat.le_of_ble_eq_true rfl) (Nat.le_of_ble_eq_true rfl) (Nat.le_of_ble_eq_true rfl) (Nat.le_of_ble_eq_true rfl) (Nat.le_refl _) rfl rfl dX12_term_58 ?_
      obtain ⟨x16, e_x16, h⟩ := zbd_of h
      refine z_join μ3 84 [] [.int x16] ?_ (fun k_J14 => ?_)
      · have h := Option.some.inj h
        obtain ⟨rfl, rfl⟩ := Prod.mk.inj h
        exact z_iret C0 rfl dX12_term_84
      · have h := e_x16
        by_cases hc21 : (¬ ((f_X12_isIn v2 (0 : Int32) ((μ3 (a0 + 1) ((μ3 a0 25).toNatClampNeg)) - (1 : Int32))) = 0)) ∧ (¬ ((f_X12_isIn v3 (0 : Int32) (2 : Int32)) = 0))
        · have h := zif_t hc21 h
          refine z_join μ3 73 [(0, .ref (zb g + a0)), (1, .int v1), (2, .int v2), (3, .int v3)] [] ?_ (fun k22 => ?_)
          · refine z_aload_n C0 dX12_term_73 rfl 0 rfl ?_
            refine z_iload_n C0 dX12_term_74 rfl 2 rfl ?_
            refine z_iload_n C0 dX12_term_75 rfl 3 rfl ?_
            obtain ⟨r15, e_r15, h⟩ := zbd_of h
            refine z_callV (As := [.int v2, .int v3]) (rest := []) C0 rfl kc_X12_termOf km_RX12_326 (r_X12_termOf (l := l) (g := g) a0 v2 v3 μ3 hT0 e_r15) hT0.1 hT0.2.2.1 rfl (by decide) rfl (Nat.le_of_ble_eq_true rfl) (Nat.le_of_ble_eq_true rfl) (Nat.le_of_ble_eq_true rfl) (Nat.le_of_ble_eq_true rfl) (Nat.le_refl _) rfl rfl dX12_term_76 ?_
            refine z_goto C0 84 dX12_term_79 (by decide) ?_
            refine z_sub (lo1 := []) [] rfl ?_
            obtain rfl := (Option.some.inj h)
            exact k_J14
          · refine z_if_eq C0 82 dX12_term_61 (by decide) (fun c12 => ?_) (fun c12 => ?_)
            · exact absurd hc21 (fun q => q.1 c12)
            · refine z_iload_n C0 dX12_term_64 rfl 3 rfl ?_
              refine z_iconst (v := (0 : Int32)) C0 dX12_term_65 (by decide) ?_
              refine z_iconst (v := (2 : Int32)) C0 dX12_term_66 (by decide) ?_
              refine z_callS (As := [.int v3, .int (0 : Int32), .int (2 : Int32)]) (rest := []) C0 rfl kc_X12_isIn km_RX12_109 (r_X12_isIn (l := l) (g := g) (μ := μ3) v3 (0 : Int32) (2 : Int32) rfl) rfl (Nat.le_of_ble_eq_true rfl) (Nat.le_of_ble_eq_true rfl) (Nat.le_of_ble_eq_true rfl) (Nat.le_of_ble_eq_true rfl) (Nat.le_refl _) rfl rfl dX12_term_67 ?_
              refine z_if_eq C0 82 dX12_term_70 (by decide) (fun c13 => ?_) (fun c13 => ?_)
              · exact absurd hc21 (fun q => (fun q => q c13) q.2)
              · exact k22
        · have h := zif_f hc21 h
          refine z_join μ3 82 [(0, .ref (zb g + a0)), (1, .int v1), (2, .int v2), (3, .int v3)] [] ?_ (fun k23 => ?_)
          · refine z_bipush (v := (-2 : Int32)) C0 dX12_term_82 (by decide) ?_
            refine z_sub (lo1 := []) [] rfl ?_
            obtain rfl := (Option.some.inj h)
            exact k_J14
          · refine z_if_eq C0 82 dX12_term_61 (by decide) (fun c12 => ?_) (fun c12 => ?_)
            · exact k23
            · refine z_iload_n C0 dX12_term_64 rfl 3 rfl ?_
              refine z_iconst (v := (0 : Int32)) C0 dX12_term_65 (by decide) ?_
              refine z_iconst (v := (2 : Int32)) C0 dX12_term_66 (by decide) ?_
              refine z_callS (As := [.int v3, .int (0 : Int32), .int (2 : Int32)]) (rest := []) C0 rfl kc_X12_isIn km_RX12_109 (r_X12_isIn (l := l) (g := g) (μ := μ3) v3 (0 : Int32) (2 : Int32) rfl) rfl (Nat.le_of_ble_eq_true rfl) (Nat.le_of_ble_eq_true rfl) (Nat.le_of_ble_eq_true rfl) (Nat.le_of_ble_eq_true rfl) (Nat.le_refl _) rfl rfl dX12_term_67 ?_
              refine z_if_eq C0 82 dX12_term_70 (by decide) (fun c13 => ?_) (fun c13 => ?_)
              · exact k23
              · exact absurd ⟨c12, c13⟩ hc21
    · have h := zif_f (fun q => q c4) h
      refine z_iload_n C0 dX12_term_26 rfl 3 rfl ?_
      obtain ⟨x20, e_x20, h⟩ := zbd_of h
      refine z_join μ3 44 [] [.int x20] ?_ (fun k_J18 => ?_)
      · have h := Option.some.inj h
        obtain ⟨rfl, rfl⟩ := Prod.mk.inj h
        exact z_iret C0 rfl dX12_term_44
      · have h := e_x20
        refine z_if_ne C0 42 dX12_term_27 (by decide) (fun c17 => ?_) (fun c17 => ?_)
        · have h := zif_t c17 h
          refine z_bipush (v := (-2 : Int32)) C0 dX12_term_42 (by decide) ?_
          refine z_sub (lo1 := []) [] rfl ?_
          obtain rfl := (Option.some.inj h)
          exact k_J18
        · have h := zif_f (fun q => q c17) h
          refine z_aload_n C0 dX12_term_30 rfl 0 rfl ?_
          refine z_getr C0 hT0 kf_12_7 zr_12_0 zx_12 (zs_12_0 hT0).1 dX12_term_31 ?_
          refine z_aload_n C0 dX12_term_34 rfl 0 rfl ?_
          refine z_geti C0 hT0.1 hT0.2.2.1 kf_12_323 zr_12_25 dX12_term_35 ?_
          obtain ⟨g19, h⟩ := zg_of h
          refine z_iald C0 (zs_12_0 hT0).2 g19 rfl dX12_term_38 ?_
          refine z_goto C0 44 dX12_term_39 (by decide) ?_
          refine z_sub (lo1 := []) [] rfl ?_
          obtain rfl := (Option.some.inj h)
          exact k_J18
  · have h := zif_f (fun q => q c2) h
    refine z_bipush (v := (-2 : Int32)) C0 dX12_term_9 (by decide) ?_
    have h := Option.some.inj h
    obtain ⟨rfl, rfl⟩ := Prod.mk.inj h
    exact z_iret C0 rfl dX12_term_11
def f_X12_wrongAtEnd_L64 (a0 : Nat) (x3 : Int32) (μ7 : zM) : Nat → Int32 → Int32 → Option (Int32)
  | 0, _, _ => none
  | n + 1, y5, y6 =>
    if (μ7 (a0 + 3) 12) ≤ y6 then
      some y5
    else
      zbd (zbd (if y5 = 0 then
            some false
          else
            zg (zin ((56 : Int32) + ((2 : Int32) * y6)) 121) <|
            if x3 ≤ (μ7 (a0 + 3) (((56 : Int32) + ((2 : Int32) * y6)).toNatClampNeg)) then
              some false
            else
              some true) fun b17 =>
        if b17 = true then
          some (1 : Int32)
        else
          some (0 : Int32)) fun x19 =>
      zl (y6 + (1 : Int32)) fun x20 =>
      f_X12_wrongAtEnd_L64 a0 x3 μ7 n x19 x20
def f_X12_wrongAtEnd_L108 (a0 : Nat) (x3 : Int32) (μ25 : zM) : Nat → Int32 → Int32 → Option (Int32)
  | 0, _, _ => none
  | n + 1, y23, y24 =>
    if (μ25 (a0 + 3) 15) ≤ y24 then
      some y23
    else
      zbd (zbd (if y23 = 0 then
            some false
          else
            zg (zin ((101 : Int32) + ((2 : Int32) * y24)) 121) <|
            if x3 ≤ (μ25 (a0 + 3) (((101 : Int32) + ((2 : Int32) * y24)).toNatClampNeg)) then
              some false
            else
              some true) fun b35 =>
        if b35 = true then
          some (1 : Int32)
        else
          some (0 : Int32)) fun x37 =>
      zl (y24 + (1 : Int32)) fun x38 =>
      f_X12_wrongAtEnd_L108 a0 x3 μ25 n x37 x38
def f_X12_wrongAtEnd_L158 (a0 : Nat) (μ44 : zM) : Nat → Int32 → Int32 → Option (Int32)
  | 0, _, _ => none
  | n + 1, y42, y43 =>
    if (μ44 (a0 + 3) 11) ≤ y43 then
      some y42
    else
      zg (zin ((16 : Int32) + ((2 : Int32) * y43)) 121) <|
      zl (μ44 (a0 + 3) (((16 : Int32) + ((2 : Int32) * y43)).toNatClampNeg)) fun x47 =>
      zg (zin (((16 : Int32) + ((2 : Int32) * y43)) + (1 : Int32)) 121) <|
      zl (μ44 (a0 + 3) ((((16 : Int32) + ((2 : Int32) * y43)) + (1 : Int32)).toNatClampNeg)) fun x49 =>
      zl (if (¬ (y42 = 0)) ∧ ((¬ ((μ44 (a0 + 3) 0) ≤ x47)) ∧ ((¬ ((μ44 (a0 + 3) 1) ≤ x49)) ∧ (((f_X12_isIn x47 (μ44 (a0 + 3) 4) (((μ44 (a0 + 3) 4) + (μ44 (a0 + 3) 2)) - (1 : Int32))) = 0) ∨ ((f_X12_isIn x49 (μ44 (a0 + 3) 5) (((μ44 (a0 + 3) 5) + (μ44 (a0 + 3) 3)) - (1 : Int32))) = 0)))) then
          (1 : Int32)
        else
          (0 : Int32)) fun x56 =>
      zl (y43 + (1 : Int32)) fun x57 =>
      f_X12_wrongAtEnd_L158 a0 μ44 n x56 x57
def f_X12_wrongAtEnd (a0 : Nat) (μ : zM) : Option (Int32) :=
  if (¬ ((μ (a0 + 3) 0) < ((μ (a0 + 3) 4) + (μ (a0 + 3) 2)))) ∧ (((μ (a0 + 3) 5) + (μ (a0 + 3) 3)) ≤ (μ (a0 + 3) 1)) then
    zl ((μ (a0 + 3) 2) * (μ (a0 + 3) 3)) fun x3 =>
    zbd (f_X12_wrongAtEnd_L64 a0 x3 μ zFU (1 : Int32) (0 : Int32)) fun x21 =>
    zbd (f_X12_wrongAtEnd_L108 a0 x3 μ zFU x21 (0 : Int32)) fun x39 =>
    if ¬ x39 = 0 then
      zbd (f_X12_wrongAtEnd_L158 a0 μ zFU x39 (0 : Int32)) fun x58 =>
      zl (if x58 = 0 then
          (6 : Int32)
        else
          (0 : Int32)) fun x61 =>
      some x61
    else
      some (5 : Int32)
  else
    some (4 : Int32)
set_option maxHeartbeats 4000000 in
set_option maxRecDepth 100000 in
theorem r_X12_wrongAtEnd_L64 {l : Launch} {g : zL} {p : Program} {e : Env} {s : State} {m : MethodId} {args : Array Value} {below : List Frame} {meth : Method} {c : Code} {Q : State → Prop} (C0 : zC p s m args meth c g cX12_wrongAtEnd yX12_wrongAtEnd 6 (some (.int))) (a0 : Nat) (x3 : Int32) (μ7 : zM) (hU4 : zT zNN zσ1 a0 12) : ∀ (n : Nat) (y5 : Int32) (y6 : Int32) (x21 : Int32), f_X12_wrongAtEnd_L64 a0 x3 μ7 n y5 y6 = some x21 → Z p l e (zrm 1 0 0) s m args below meth c g Q 6 zNN 0 0 zσ1 μ7 106 [(0, .ref (zb g + a0)), (1, .int x3), (2, .int x21)] [] → Z p l e (zrm 1 0 0) s m args below meth c g Q 6 zNN 0 0 zσ1 μ7 64 [(0, .ref (zb g + a0)), (1, .int x3), (2, .int y5), (3, .int y6)] [] := by
  intro n
  induction n with
  | zero =>
    intro y5 y6 x21 h kx
    rw [f_X12_wrongAtEnd_L64] at h
    cases h
  | succ n ih =>
    intro y5 y6 x21 h kx
    rw [f_X12_wrongAtEnd_L64] at h
    refine z_iload_n C0 dX12_wrongAtEnd_64 rfl 3 rfl ?_
    refine z_aload_n C0 dX12_wrongAtEnd_65 rfl 0 rfl ?_
    refine z_getr C0 hU4 kf_12_17 zr_12_9 zx_12 (zs_12_9 hU4).1 dX12_wrongAtEnd_66 ?_
    refine z_bipush (v := (12 : Int32)) C0 dX12_wrongAtEnd_69 (by decide) ?_
    refine z_iald (j := 12) C0 (zs_12_9 hU4).2 (by decide : zin (12 : Int32) 121 = true) (by decide) dX12_wrongAtEnd_71 ?_
    refine z_icmp_ge C0 106 dX12_wrongAtEnd_72 (by decide) (fun c8 => ?_) (fun c8 => ?_)
    · have h := zif_t c8 h
      refine z_sub (lo1 := [(0, .ref (zb g + a0)), (1, .int x3), (2, .int y5)]) [0, 1, 2] rfl ?_
      obtain rfl := (Option.some.inj h)
      exact kx
    · have h := zif_f c8 h
      refine z_iload_n C0 dX12_wrongAtEnd_75 rfl 2 rfl ?_
      obtain ⟨x19, e_x19, h⟩ := zbd_of h
      refine z_join μ7 99 [(0, .ref (zb g + a0)), (1, .int x3), (3, .int y6)] [.int x19] ?_ (fun k_J18 => ?_)
      · refine z_istore_n (lo1 := [(2, .int x19), (0, .ref (zb g + a0)), (1, .int x3), (3, .int y6)]) C0 dX12_wrongAtEnd_99 rfl (by decide) rfl ?_
        obtain ⟨x20, e_x20, h⟩ := zl_of h
        refine z_iinc (lo1 := [(3, .int x20), (2, .int x19), (0, .ref (zb g + a0)), (1, .int x3)]) C0 dX12_wrongAtEnd_100 3 rfl (by decide) e_x20.symm (by decide) rfl ?_
        refine z_goto C0 64 dX12_wrongAtEnd_103 (by decide) ?_
        refine z_sub (lo1 := [(0, .ref (zb g + a0)), (1, .int x3), (2, .int x19), (3, .int x20)]) [2, 3, 1, 0] rfl ?_
        exact ih _ _ _ h kx
      · have h := e_x19
        obtain ⟨b17, e_b17, h⟩ := zbd_of h
        refine z_joinb b17 μ7 94 98 [(0, .ref (zb g + a0)), (1, .int x3), (2, .int y5), (3, .int y6)] [] (fun z64 => ?_) (fun z64 => ?_) (fun k62 k63 => ?_)
        · have h := zif_t z64 h
          refine z_iconst (v := (1 : Int32)) C0 dX12_wrongAtEnd_94 (by decide) ?_
          refine z_goto C0 99 dX12_wrongAtEnd_95 (by decide) ?_
          refine z_sub (lo1 := [(0, .ref (zb g + a0)), (1, .int x3), (3, .int y6)]) [0, 1, 3] rfl ?_
          obtain rfl := (Option.some.inj h)
          exact k_J18
        · have h := zif_f (fun q => Bool.noConfusion (z64.symm.trans q)) h
          refine z_iconst (v := (0 : Int32)) C0 dX12_wrongAtEnd_98 (by decide) ?_
          refine z_sub (lo1 := [(0, .ref (zb g + a0)), (1, .int x3), (3, .int y6)]) [0, 1, 3] rfl ?_
          obtain rfl := (Option.some.inj h)
          exact k_J18
        · have h := e_b17
          refine z_if_eq C0 98 dX12_wrongAtEnd_76 (by decide) (fun c13 => ?_) (fun c13 => ?_)
          · have h := zif_t c13 h
            exact k63 (Option.some.inj h).symm
          · have h := zif_f c13 h
            refine z_aload_n C0 dX12_wrongAtEnd_79 rfl 0 rfl ?_
            refine z_getr C0 hU4 kf_12_17 zr_12_9 zx_12 (zs_12_9 hU4).1 dX12_wrongAtEnd_80 ?_
            refine z_bipush (v := (56 : Int32)) C0 dX12_wrongAtEnd_83 (by decide) ?_
            refine z_iconst (v := (2 : Int32)) C0 dX12_wrongAtEnd_85 (by decide) ?_
            refine z_iload_n C0 dX12_wrongAtEnd_86 rfl 3 rfl ?_
            refine z_imul C0 dX12_wrongAtEnd_87 ?_
            refine z_iadd C0 dX12_wrongAtEnd_88 ?_
            obtain ⟨g15, h⟩ := zg_of h
            refine z_iald C0 (zs_12_9 hU4).2 g15 rfl dX12_wrongAtEnd_89 ?_
            refine z_iload_n C0 dX12_wrongAtEnd_90 rfl 1 rfl ?_
            refine z_icmp_ge C0 98 dX12_wrongAtEnd_91 (by decide) (fun c16 => ?_) (fun c16 => ?_)
            · have h := zif_t c16 h
              exact k63 (Option.some.inj h).symm
            · have h := zif_f c16 h
              exact k62 (Option.some.inj h).symm
set_option maxHeartbeats 4000000 in
set_option maxRecDepth 100000 in
theorem r_X12_wrongAtEnd_L108 {l : Launch} {g : zL} {p : Program} {e : Env} {s : State} {m : MethodId} {args : Array Value} {below : List Frame} {meth : Method} {c : Code} {Q : State → Prop} (C0 : zC p s m args meth c g cX12_wrongAtEnd yX12_wrongAtEnd 6 (some (.int))) (a0 : Nat) (x3 : Int32) (μ25 : zM) (hU22 : zT zNN zσ1 a0 12) : ∀ (n : Nat) (y23 : Int32) (y24 : Int32) (x39 : Int32), f_X12_wrongAtEnd_L108 a0 x3 μ25 n y23 y24 = some x39 → Z p l e (zrm 1 0 0) s m args below meth c g Q 6 zNN 0 0 zσ1 μ25 150 [(0, .ref (zb g + a0)), (2, .int x39)] [] → Z p l e (zrm 1 0 0) s m args below meth c g Q 6 zNN 0 0 zσ1 μ25 108 [(0, .ref (zb g + a0)), (1, .int x3), (2, .int y23), (3, .int y24)] [] := by
  intro n
  induction n with
  | zero =>
    intro y23 y24 x39 h kx
    rw [f_X12_wrongAtEnd_L108] at h
    cases h
  | succ n ih =>
    intro y23 y24 x39 h kx
    rw [f_X12_wrongAtEnd_L108] at h
    refine z_iload_n C0 dX12_wrongAtEnd_108 rfl 3 rfl ?_
    refine z_aload_n C0 dX12_wrongAtEnd_109 rfl 0 rfl ?_
    refine z_getr C0 hU22 kf_12_17 zr_12_9 zx_12 (zs_12_9 hU22).1 dX12_wrongAtEnd_110 ?_
    refine z_bipush (v := (15 : Int32)) C0 dX12_wrongAtEnd_113 (by decide) ?_
    refine z_iald (j := 15) C0 (zs_12_9 hU22).2 (by decide : zin (15 : Int32) 121 = true) (by decide) dX12_wrongAtEnd_115 ?_
    refine z_icmp_ge C0 150 dX12_wrongAtEnd_116 (by decide) (fun c26 => ?_) (fun c26 => ?_)
    · have h := zif_t c26 h
      refine z_sub (lo1 := [(0, .ref (zb g + a0)), (2, .int y23)]) [0, 2] rfl ?_
      obtain rfl := (Option.some.inj h)
      exact kx
    · have h := zif_f c26 h
      refine z_iload_n C0 dX12_wrongAtEnd_119 rfl 2 rfl ?_
      obtain ⟨x37, e_x37, h⟩ := zbd_of h
      refine z_join μ25 143 [(0, .ref (zb g + a0)), (1, .int x3), (3, .int y24)] [.int x37] ?_ (fun k_J36 => ?_)
      · refine z_istore_n (lo1 := [(2, .int x37), (0, .ref (zb g + a0)), (1, .int x3), (3, .int y24)]) C0 dX12_wrongAtEnd_143 rfl (by decide) rfl ?_
        obtain ⟨x38, e_x38, h⟩ := zl_of h
        refine z_iinc (lo1 := [(3, .int x38), (2, .int x37), (0, .ref (zb g + a0)), (1, .int x3)]) C0 dX12_wrongAtEnd_144 3 rfl (by decide) e_x38.symm (by decide) rfl ?_
        refine z_goto C0 108 dX12_wrongAtEnd_147 (by decide) ?_
        refine z_sub (lo1 := [(0, .ref (zb g + a0)), (1, .int x3), (2, .int x37), (3, .int x38)]) [2, 3, 1, 0] rfl ?_
        exact ih _ _ _ h kx
      · have h := e_x37
        obtain ⟨b35, e_b35, h⟩ := zbd_of h
        refine z_joinb b35 μ25 138 142 [(0, .ref (zb g + a0)), (1, .int x3), (2, .int y23), (3, .int y24)] [] (fun z67 => ?_) (fun z67 => ?_) (fun k65 k66 => ?_)
        · have h := zif_t z67 h
          refine z_iconst (v := (1 : Int32)) C0 dX12_wrongAtEnd_138 (by decide) ?_
          refine z_goto C0 143 dX12_wrongAtEnd_139 (by decide) ?_
          refine z_sub (lo1 := [(0, .ref (zb g + a0)), (1, .int x3), (3, .int y24)]) [0, 1, 3] rfl ?_
          obtain rfl := (Option.some.inj h)
          exact k_J36
        · have h := zif_f (fun q => Bool.noConfusion (z67.symm.trans q)) h
          refine z_iconst (v := (0 : Int32)) C0 dX12_wrongAtEnd_142 (by decide) ?_
          refine z_sub (lo1 := [(0, .ref (zb g + a0)), (1, .int x3), (3, .int y24)]) [0, 1, 3] rfl ?_
          obtain rfl := (Option.some.inj h)
          exact k_J36
        · have h := e_b35
          refine z_if_eq C0 142 dX12_wrongAtEnd_120 (by decide) (fun c31 => ?_) (fun c31 => ?_)
          · have h := zif_t c31 h
            exact k66 (Option.some.inj h).symm
          · have h := zif_f c31 h
            refine z_aload_n C0 dX12_wrongAtEnd_123 rfl 0 rfl ?_
            refine z_getr C0 hU22 kf_12_17 zr_12_9 zx_12 (zs_12_9 hU22).1 dX12_wrongAtEnd_124 ?_
            refine z_bipush (v := (101 : Int32)) C0 dX12_wrongAtEnd_127 (by decide) ?_
            refine z_iconst (v := (2 : Int32)) C0 dX12_wrongAtEnd_129 (by decide) ?_
            refine z_iload_n C0 dX12_wrongAtEnd_130 rfl 3 rfl ?_
            refine z_imul C0 dX12_wrongAtEnd_131 ?_
            refine z_iadd C0 dX12_wrongAtEnd_132 ?_
            obtain ⟨g33, h⟩ := zg_of h
            refine z_iald C0 (zs_12_9 hU22).2 g33 rfl dX12_wrongAtEnd_133 ?_
            refine z_iload_n C0 dX12_wrongAtEnd_134 rfl 1 rfl ?_
            refine z_icmp_ge C0 142 dX12_wrongAtEnd_135 (by decide) (fun c34 => ?_) (fun c34 => ?_)
            · have h := zif_t c34 h
              exact k66 (Option.some.inj h).symm
            · have h := zif_f c34 h
              exact k65 (Option.some.inj h).symm
set_option maxHeartbeats 4000000 in
set_option maxRecDepth 100000 in
theorem r_X12_wrongAtEnd_L158 {l : Launch} {g : zL} {p : Program} {e : Env} {s : State} {m : MethodId} {args : Array Value} {below : List Frame} {meth : Method} {c : Code} {Q : State → Prop} (C0 : zC p s m args meth c g cX12_wrongAtEnd yX12_wrongAtEnd 6 (some (.int))) (a0 : Nat) (μ44 : zM) (hU41 : zT zNN zσ1 a0 12) : ∀ (n : Nat) (y42 : Int32) (y43 : Int32) (x58 : Int32), f_X12_wrongAtEnd_L158 a0 μ44 n y42 y43 = some x58 → Z p l e (zrm 1 0 0) s m args below meth c g Q 6 zNN 0 0 zσ1 μ44 293 [(2, .int x58)] [] → Z p l e (zrm 1 0 0) s m args below meth c g Q 6 zNN 0 0 zσ1 μ44 158 [(0, .ref (zb g + a0)), (2, .int y42), (3, .int y43)] [] := by
  intro n
  induction n with
  | zero =>
    intro y42 y43 x58 h kx
    rw [f_X12_wrongAtEnd_L158] at h
    cases h
  | succ n ih =>
    intro y42 y43 x58 h kx
    rw [f_X12_wrongAtEnd_L158] at h
    refine z_iload_n C0 dX12_wrongAtEnd_158 rfl 2 rfl ?_
    refine z_aload_n C0 dX12_wrongAtEnd_159 rfl 0 rfl ?_
    refine z_getr C0 hU41 kf_12_17 zr_12_9 zx_12 (zs_12_9 hU41).1 dX12_wrongAtEnd_160 ?_
    refine z_bipush (v := (11 : Int32)) C0 dX12_wrongAtEnd_163 (by decide) ?_
    refine z_iald (j := 11) C0 (zs_12_9 hU41).2 (by decide : zin (11 : Int32) 121 = true) (by decide) dX12_wrongAtEnd_165 ?_
    refine z_icmp_ge C0 293 dX12_wrongAtEnd_166 (by decide) (fun c45 => ?_) (fun c45 => ?_)
    · have h := zif_t c45 h
      refine z_sub (lo1 := [(2, .int y42)]) [1] rfl ?_
      obtain rfl := (Option.some.inj h)
      exact kx
    · have h := zif_f c45 h
      refine z_aload_n C0 dX12_wrongAtEnd_169 rfl 0 rfl ?_
      refine z_getr C0 hU41 kf_12_17 zr_12_9 zx_12 (zs_12_9 hU41).1 dX12_wrongAtEnd_170 ?_
      refine z_bipush (v := (16 : Int32)) C0 dX12_wrongAtEnd_173 (by decide) ?_
      refine z_iconst (v := (2 : Int32)) C0 dX12_wrongAtEnd_175 (by decide) ?_
      refine z_iload_n C0 dX12_wrongAtEnd_176 rfl 2 rfl ?_
      refine z_imul C0 dX12_wrongAtEnd_177 ?_
      refine z_iadd C0 dX12_wrongAtEnd_178 ?_
      obtain ⟨g46, h⟩ := zg_of h
      refine z_iald C0 (zs_12_9 hU41).2 g46 rfl dX12_wrongAtEnd_179 ?_
      obtain ⟨x47, e_x47, h⟩ := zl_of h
      refine z_nm e_x47 ?_
      refine z_istore (lo1 := [(4, .int x47), (0, .ref (zb g + a0)), (2, .int y42), (3, .int y43)]) C0 dX12_wrongAtEnd_180 (by decide) rfl ?_
      refine z_aload_n C0 dX12_wrongAtEnd_182 rfl 1 rfl ?_
      refine z_getr C0 hU41 kf_12_17 zr_12_9 zx_12 (zs_12_9 hU41).1 dX12_wrongAtEnd_183 ?_
      refine z_bipush (v := (16 : Int32)) C0 dX12_wrongAtEnd_186 (by decide) ?_
      refine z_iconst (v := (2 : Int32)) C0 dX12_wrongAtEnd_188 (by decide) ?_
      refine z_iload_n C0 dX12_wrongAtEnd_189 rfl 3 rfl ?_
      refine z_imul C0 dX12_wrongAtEnd_190 ?_
      refine z_iadd C0 dX12_wrongAtEnd_191 ?_
      refine z_iconst (v := (1 : Int32)) C0 dX12_wrongAtEnd_192 (by decide) ?_
      refine z_iadd C0 dX12_wrongAtEnd_193 ?_
      obtain ⟨g48, h⟩ := zg_of h
      refine z_iald C0 (zs_12_9 hU41).2 g48 rfl dX12_wrongAtEnd_194 ?_
      obtain ⟨x49, e_x49, h⟩ := zl_of h
      refine z_nm e_x49 ?_
      refine z_istore (lo1 := [(5, .int x49), (4, .int x47), (0, .ref (zb g + a0)), (2, .int y42), (3, .int y43)]) C0 dX12_wrongAtEnd_195 (by decide) rfl ?_
      refine z_iload_n C0 dX12_wrongAtEnd_197 rfl 3 rfl ?_
      obtain ⟨x56, e_x56, h⟩ := zl_of h
      refine z_join μ44 286 [(0, .ref (zb g + a0)), (3, .int y43)] [.int x56] ?_ (fun k_J55 => ?_)
      · refine z_istore_n (lo1 := [(2, .int x56), (0, .ref (zb g + a0)), (3, .int y43)]) C0 dX12_wrongAtEnd_286 rfl (by decide) rfl ?_
        obtain ⟨x57, e_x57, h⟩ := zl_of h
        refine z_iinc (lo1 := [(3, .int x57), (2, .int x56), (0, .ref (zb g + a0))]) C0 dX12_wrongAtEnd_287 2 rfl (by decide) e_x57.symm (by decide) rfl ?_
        refine z_goto C0 158 dX12_wrongAtEnd_290 (by decide) ?_
        refine z_sub (lo1 := [(0, .ref (zb g + a0)), (2, .int x56), (3, .int x57)]) [2, 1, 0] rfl ?_
        exact ih _ _ _ h kx
      · have h := e_x56.symm
        by_cases hc68 : (¬ (y42 = 0)) ∧ ((¬ ((μ44 (a0 + 3) 0) ≤ x47)) ∧ ((¬ ((μ44 (a0 + 3) 1) ≤ x49)) ∧ (((f_X12_isIn x47 (μ44 (a0 + 3) 4) (((μ44 (a0 + 3) 4) + (μ44 (a0 + 3) 2)) - (1 : Int32))) = 0) ∨ ((f_X12_isIn x49 (μ44 (a0 + 3) 5) (((μ44 (a0 + 3) 5) + (μ44 (a0 + 3) 3)) - (1 : Int32))) = 0))))
        · have h := zif_t hc68 h
          refine z_join μ44 281 [(5, .int x49), (4, .int x47), (0, .ref (zb g + a0)), (2, .int y42), (3, .int y43)] [] ?_ (fun k69 => ?_)
          · refine z_iconst (v := (1 : Int32)) C0 dX12_wrongAtEnd_281 (by decide) ?_
            refine z_goto C0 286 dX12_wrongAtEnd_282 (by decide) ?_
            refine z_sub (lo1 := [(0, .ref (zb g + a0)), (3, .int y43)]) [2, 4] rfl ?_
            obtain rfl := h
            exact k_J55
          · refine z_if_eq C0 285 dX12_wrongAtEnd_198 (by decide) (fun c50 => ?_) (fun c50 => ?_)
            · exact absurd hc68 (fun q => q.1 c50)
            · refine z_iload C0 dX12_wrongAtEnd_201 1 rfl ?_
              refine z_aload_n C0 dX12_wrongAtEnd_203 rfl 2 rfl ?_
              refine z_getr C0 hU41 kf_12_17 zr_12_9 zx_12 (zs_12_9 hU41).1 dX12_wrongAtEnd_204 ?_
              refine z_iconst (v := (0 : Int32)) C0 dX12_wrongAtEnd_207 (by decide) ?_
              refine z_iald (j := 0) C0 (zs_12_9 hU41).2 (by decide : zin (0 : Int32) 121 = true) (by decide) dX12_wrongAtEnd_208 ?_
              refine z_icmp_ge C0 285 dX12_wrongAtEnd_209 (by decide) (fun c51 => ?_) (fun c51 => ?_)
              · exact absurd hc68 (fun q => (fun q => q.1 c51) q.2)
              · refine z_iload C0 dX12_wrongAtEnd_212 0 rfl ?_
                refine z_aload_n C0 dX12_wrongAtEnd_214 rfl 2 rfl ?_
                refine z_getr C0 hU41 kf_12_17 zr_12_9 zx_12 (zs_12_9 hU41).1 dX12_wrongAtEnd_215 ?_
                refine z_iconst (v := (1 : Int32)) C0 dX12_wrongAtEnd_218 (by decide) ?_
                refine z_iald (j := 1) C0 (zs_12_9 hU41).2 (by decide : zin (1 : Int32) 121 = true) (by decide) dX12_wrongAtEnd_219 ?_
                refine z_icmp_ge C0 285 dX12_wrongAtEnd_220 (by decide) (fun c52 => ?_) (fun c52 => ?_)
                · exact absurd hc68 (fun q => (fun q => (fun q => q.1 c52) q.2) q.2)
                · refine z_iload C0 dX12_wrongAtEnd_223 1 rfl ?_
                  refine z_aload_n C0 dX12_wrongAtEnd_225 rfl 2 rfl ?_
                  refine z_getr C0 hU41 kf_12_17 zr_12_9 zx_12 (zs_12_9 hU41).1 dX12_wrongAtEnd_226 ?_
                  refine z_iconst (v := (4 : Int32)) C0 dX12_wrongAtEnd_229 (by decide) ?_
                  refine z_iald (j := 4) C0 (zs_12_9 hU41).2 (by decide : zin (4 : Int32) 121 = true) (by decide) dX12_wrongAtEnd_230 ?_
                  refine z_aload_n C0 dX12_wrongAtEnd_231 rfl 2 rfl ?_
                  refine z_getr C0 hU41 kf_12_17 zr_12_9 zx_12 (zs_12_9 hU41).1 dX12_wrongAtEnd_232 ?_
                  refine z_iconst (v := (4 : Int32)) C0 dX12_wrongAtEnd_235 (by decide) ?_
                  refine z_iald (j := 4) C0 (zs_12_9 hU41).2 (by decide : zin (4 : Int32) 121 = true) (by decide) dX12_wrongAtEnd_236 ?_
                  refine z_aload_n C0 dX12_wrongAtEnd_237 rfl 2 rfl ?_
                  refine z_getr C0 hU41 kf_12_17 zr_12_9 zx_12 (zs_12_9 hU41).1 dX12_wrongAtEnd_238 ?_
                  refine z_iconst (v := (2 : Int32)) C0 dX12_wrongAtEnd_241 (by decide) ?_
                  refine z_iald (j := 2) C0 (zs_12_9 hU41).2 (by decide : zin (2 : Int32) 121 = true) (by decide) dX12_wrongAtEnd_242 ?_
                  refine z_iadd C0 dX12_wrongAtEnd_243 ?_
                  refine z_iconst (v := (1 : Int32)) C0 dX12_wrongAtEnd_244 (by decide) ?_
                  refine z_isub C0 dX12_wrongAtEnd_245 ?_
                  refine z_callS (As := [.int x47, .int (μ44 (a0 + 3) 4), .int (((μ44 (a0 + 3) 4) + (μ44 (a0 + 3) 2)) - (1 : Int32))]) (rest := []) C0 rfl kc_X12_isIn km_RX12_109 (r_X12_isIn (l := l) (g := g) (μ := μ44) x47 (μ44 (a0 + 3) 4) (((μ44 (a0 + 3) 4) + (μ44 (a0 + 3) 2)) - (1 : Int32)) rfl) rfl (Nat.le_of_ble_eq_true rfl) (Nat.le_of_ble_eq_true rfl) (Nat.le_of_ble_eq_true rfl) (Nat.le_of_ble_eq_true rfl) (Nat.le_refl _) rfl rfl dX12_wrongAtEnd_246 ?_
                  refine z_if_eq C0 281 dX12_wrongAtEnd_249 (by decide) (fun c53 => ?_) (fun c53 => ?_)
                  · exact k69
                  · refine z_iload C0 dX12_wrongAtEnd_252 0 rfl ?_
                    refine z_aload_n C0 dX12_wrongAtEnd_254 rfl 2 rfl ?_
                    refine z_getr C0 hU41 kf_12_17 zr_12_9 zx_12 (zs_12_9 hU41).1 dX12_wrongAtEnd_255 ?_
                    refine z_iconst (v := (5 : Int32)) C0 dX12_wrongAtEnd_258 (by decide) ?_
                    refine z_iald (j := 5) C0 (zs_12_9 hU41).2 (by decide : zin (5 : Int32) 121 = true) (by decide) dX12_wrongAtEnd_259 ?_
                    refine z_aload_n C0 dX12_wrongAtEnd_260 rfl 2 rfl ?_
                    refine z_getr C0 hU41 kf_12_17 zr_12_9 zx_12 (zs_12_9 hU41).1 dX12_wrongAtEnd_261 ?_
                    refine z_iconst (v := (5 : Int32)) C0 dX12_wrongAtEnd_264 (by decide) ?_
                    refine z_iald (j := 5) C0 (zs_12_9 hU41).2 (by decide : zin (5 : Int32) 121 = true) (by decide) dX12_wrongAtEnd_265 ?_
                    refine z_aload_n C0 dX12_wrongAtEnd_266 rfl 2 rfl ?_
                    refine z_getr C0 hU41 kf_12_17 zr_12_9 zx_12 (zs_12_9 hU41).1 dX12_wrongAtEnd_267 ?_
                    refine z_iconst (v := (3 : Int32)) C0 dX12_wrongAtEnd_270 (by decide) ?_
                    refine z_iald (j := 3) C0 (zs_12_9 hU41).2 (by decide : zin (3 : Int32) 121 = true) (by decide) dX12_wrongAtEnd_271 ?_
                    refine z_iadd C0 dX12_wrongAtEnd_272 ?_
                    refine z_iconst (v := (1 : Int32)) C0 dX12_wrongAtEnd_273 (by decide) ?_
                    refine z_isub C0 dX12_wrongAtEnd_274 ?_
                    refine z_callS (As := [.int x49, .int (μ44 (a0 + 3) 5), .int (((μ44 (a0 + 3) 5) + (μ44 (a0 + 3) 3)) - (1 : Int32))]) (rest := []) C0 rfl kc_X12_isIn km_RX12_109 (r_X12_isIn (l := l) (g := g) (μ := μ44) x49 (μ44 (a0 + 3) 5) (((μ44 (a0 + 3) 5) + (μ44 (a0 + 3) 3)) - (1 : Int32)) rfl) rfl (Nat.le_of_ble_eq_true rfl) (Nat.le_of_ble_eq_true rfl) (Nat.le_of_ble_eq_true rfl) (Nat.le_of_ble_eq_true rfl) (Nat.le_refl _) rfl rfl dX12_wrongAtEnd_275 ?_
                    refine z_if_ne C0 285 dX12_wrongAtEnd_278 (by decide) (fun c54 => ?_) (fun c54 => ?_)
                    · exact absurd hc68 (fun q => (fun q => (fun q => (fun q => q.elim c53 (fun q => c54 q)) q.2) q.2) q.2)
                    · exact k69
        · have h := zif_f hc68 h
          refine z_join μ44 285 [(5, .int x49), (4, .int x47), (0, .ref (zb g + a0)), (2, .int y42), (3, .int y43)] [] ?_ (fun k70 => ?_)
          · refine z_iconst (v := (0 : Int32)) C0 dX12_wrongAtEnd_285 (by decide) ?_
            refine z_sub (lo1 := [(0, .ref (zb g + a0)), (3, .int y43)]) [2, 4] rfl ?_
            obtain rfl := h
            exact k_J55
          · refine z_if_eq C0 285 dX12_wrongAtEnd_198 (by decide) (fun c50 => ?_) (fun c50 => ?_)
            · exact k70
            · refine z_iload C0 dX12_wrongAtEnd_201 1 rfl ?_
              refine z_aload_n C0 dX12_wrongAtEnd_203 rfl 2 rfl ?_
              refine z_getr C0 hU41 kf_12_17 zr_12_9 zx_12 (zs_12_9 hU41).1 dX12_wrongAtEnd_204 ?_
              refine z_iconst (v := (0 : Int32)) C0 dX12_wrongAtEnd_207 (by decide) ?_
              refine z_iald (j := 0) C0 (zs_12_9 hU41).2 (by decide : zin (0 : Int32) 121 = true) (by decide) dX12_wrongAtEnd_208 ?_
              refine z_icmp_ge C0 285 dX12_wrongAtEnd_209 (by decide) (fun c51 => ?_) (fun c51 => ?_)
              · exact k70
              · refine z_iload C0 dX12_wrongAtEnd_212 0 rfl ?_
                refine z_aload_n C0 dX12_wrongAtEnd_214 rfl 2 rfl ?_
                refine z_getr C0 hU41 kf_12_17 zr_12_9 zx_12 (zs_12_9 hU41).1 dX12_wrongAtEnd_215 ?_
                refine z_iconst (v := (1 : Int32)) C0 dX12_wrongAtEnd_218 (by decide) ?_
                refine z_iald (j := 1) C0 (zs_12_9 hU41).2 (by decide : zin (1 : Int32) 121 = true) (by decide) dX12_wrongAtEnd_219 ?_
                refine z_icmp_ge C0 285 dX12_wrongAtEnd_220 (by decide) (fun c52 => ?_) (fun c52 => ?_)
                · exact k70
                · refine z_iload C0 dX12_wrongAtEnd_223 1 rfl ?_
                  refine z_aload_n C0 dX12_wrongAtEnd_225 rfl 2 rfl ?_
                  refine z_getr C0 hU41 kf_12_17 zr_12_9 zx_12 (zs_12_9 hU41).1 dX12_wrongAtEnd_226 ?_
                  refine z_iconst (v := (4 : Int32)) C0 dX12_wrongAtEnd_229 (by decide) ?_
                  refine z_iald (j := 4) C0 (zs_12_9 hU41).2 (by decide : zin (4 : Int32) 121 = true) (by decide) dX12_wrongAtEnd_230 ?_
                  refine z_aload_n C0 dX12_wrongAtEnd_231 rfl 2 rfl ?_
                  refine z_getr C0 hU41 kf_12_17 zr_12_9 zx_12 (zs_12_9 hU41).1 dX12_wrongAtEnd_232 ?_
                  refine z_iconst (v := (4 : Int32)) C0 dX12_wrongAtEnd_235 (by decide) ?_
                  refine z_iald (j := 4) C0 (zs_12_9 hU41).2 (by decide : zin (4 : Int32) 121 = true) (by decide) dX12_wrongAtEnd_236 ?_
                  refine z_aload_n C0 dX12_wrongAtEnd_237 rfl 2 rfl ?_
                  refine z_getr C0 hU41 kf_12_17 zr_12_9 zx_12 (zs_12_9 hU41).1 dX12_wrongAtEnd_238 ?_
                  refine z_iconst (v := (2 : Int32)) C0 dX12_wrongAtEnd_241 (by decide) ?_
                  refine z_iald (j := 2) C0 (zs_12_9 hU41).2 (by decide : zin (2 : Int32) 121 = true) (by decide) dX12_wrongAtEnd_242 ?_
                  refine z_iadd C0 dX12_wrongAtEnd_243 ?_
                  refine z_iconst (v := (1 : Int32)) C0 dX12_wrongAtEnd_244 (by decide) ?_
                  refine z_isub C0 dX12_wrongAtEnd_245 ?_
                  refine z_callS (As := [.int x47, .int (μ44 (a0 + 3) 4), .int (((μ44 (a0 + 3) 4) + (μ44 (a0 + 3) 2)) - (1 : Int32))]) (rest := []) C0 rfl kc_X12_isIn km_RX12_109 (r_X12_isIn (l := l) (g := g) (μ := μ44) x47 (μ44 (a0 + 3) 4) (((μ44 (a0 + 3) 4) + (μ44 (a0 + 3) 2)) - (1 : Int32)) rfl) rfl (Nat.le_of_ble_eq_true rfl) (Nat.le_of_ble_eq_true rfl) (Nat.le_of_ble_eq_true rfl) (Nat.le_of_ble_eq_true rfl) (Nat.le_refl _) rfl rfl dX12_wrongAtEnd_246 ?_
                  refine z_if_eq C0 281 dX12_wrongAtEnd_249 (by decide) (fun c53 => ?_) (fun c53 => ?_)
                  · exact absurd ⟨c50, ⟨c51, ⟨c52, (Or.inl c53)⟩⟩⟩ hc68
                  · refine z_iload C0 dX12_wrongAtEnd_252 0 rfl ?_
                    refine z_aload_n C0 dX12_wrongAtEnd_254 rfl 2 rfl ?_
                    refine z_getr C0 hU41 kf_12_17 zr_12_9 zx_12 (zs_12_9 hU41).1 dX12_wrongAtEnd_255 ?_
                    refine z_iconst (v := (5 : Int32)) C0 dX12_wrongAtEnd_258 (by decide) ?_
                    refine z_iald (j := 5) C0 (zs_12_9 hU41).2 (by decide : zin (5 : Int32) 121 = true) (by decide) dX12_wrongAtEnd_259 ?_
                    refine z_aload_n C0 dX12_wrongAtEnd_260 rfl 2 rfl ?_
                    refine z_getr C0 hU41 kf_12_17 zr_12_9 zx_12 (zs_12_9 hU41).1 dX12_wrongAtEnd_261 ?_
                    refine z_iconst (v := (5 : Int32)) C0 dX12_wrongAtEnd_264 (by decide) ?_
                    refine z_iald (j := 5) C0 (zs_12_9 hU41).2 (by decide : zin (5 : Int32) 121 = true) (by decide) dX12_wrongAtEnd_265 ?_
                    refine z_aload_n C0 dX12_wrongAtEnd_266 rfl 2 rfl ?_
                    refine z_getr C0 hU41 kf_12_17 zr_12_9 zx_12 (zs_12_9 hU41).1 dX12_wrongAtEnd_267 ?_
                    refine z_iconst (v := (3 : Int32)) C0 dX12_wrongAtEnd_270 (by decide) ?_
                    refine z_iald (j := 3) C0 (zs_12_9 hU41).2 (by decide : zin (3 : Int32) 121 = true) (by decide) dX12_wrongAtEnd_271 ?_
                    refine z_iadd C0 dX12_wrongAtEnd_272 ?_
                    refine z_iconst (v := (1 : Int32)) C0 dX12_wrongAtEnd_273 (by decide) ?_
                    refine z_isub C0 dX12_wrongAtEnd_274 ?_
                    refine z_callS (As := [.int x49, .int (μ44 (a0 + 3) 5), .int (((μ44 (a0 + 3) 5) + (μ44 (a0 + 3) 3)) - (1 : Int32))]) (rest := []) C0 rfl kc_X12_isIn km_RX12_109 (r_X12_isIn (l := l) (g := g) (μ := μ44) x49 (μ44 (a0 + 3) 5) (((μ44 (a0 + 3) 5) + (μ44 (a0 + 3) 3)) - (1 : Int32)) rfl) rfl (Nat.le_of_ble_eq_true rfl) (Nat.le_of_ble_eq_true rfl) (Nat.le_of_ble_eq_true rfl) (Nat.le_of_ble_eq_true rfl) (Nat.le_refl _) rfl rfl dX12_wrongAtEnd_275 ?_
                    refine z_if_ne C0 285 dX12_wrongAtEnd_278 (by decide) (fun c54 => ?_) (fun c54 => ?_)
                    · exact k70
                    · exact absurd ⟨c50, ⟨c51, ⟨c52, (Or.inr c54)⟩⟩⟩ hc68
set_option maxHeartbeats 4000000 in
set_option maxRecDepth 100000 in
theorem r_X12_wrongAtEnd {l : Launch} {g : zL} (a0 : Nat) (μ : zM) (hT0 : zT zNN zσ1 a0 12) {rv : Int32} (h : f_X12_wrongAtEnd a0 μ = some rv) : zMet l g yX12_wrongAtEnd cX12_wrongAtEnd 6 (some (.int)) 1 0 0 zNN zNN zσ1 zσ1 [.ref (zb g + a0)] μ (some (.int rv)) μ := by
  refine zMet.of (by decide +kernel) (Nat.le_of_ble_eq_true rfl) ?_
  intro p e s m args below meth c C0
  refine z_loc (lo1 := [(0, .ref (zb g + a0))]) rfl ?_
  unfold f_X12_wrongAtEnd at h
  refine z_aload_n C0 dX12_wrongAtEnd_0 rfl 0 rfl ?_
  refine z_getr C0 hT0 kf_12_17 zr_12_9 zx_12 (zs_12_9 hT0).1 dX12_wrongAtEnd_1 ?_
  refine z_iconst (v := (4 : Int32)) C0 dX12_wrongAtEnd_4 (by decide) ?_
  refine z_iald (j := 4) C0 (zs_12_9 hT0).2 (by decide : zin (4 : Int32) 121 = true) (by decide) dX12_wrongAtEnd_5 ?_
  refine z_aload_n C0 dX12_wrongAtEnd_6 rfl 0 rfl ?_
  refine z_getr C0 hT0 kf_12_17 zr_12_9 zx_12 (zs_12_9 hT0).1 dX12_wrongAtEnd_7 ?_
  refine z_iconst (v := (2 : Int32)) C0 dX12_wrongAtEnd_10 (by decide) ?_
  refine z_iald (j := 2) C0 (zs_12_9 hT0).2 (by decide : zin (2 : Int32) 121 = true) (by decide) dX12_wrongAtEnd_11 ?_
  refine z_iadd C0 dX12_wrongAtEnd_12 ?_
  refine z_aload_n C0 dX12_wrongAtEnd_13 rfl 0 rfl ?_
  refine z_getr C0 hT0 kf_12_17 zr_12_9 zx_12 (zs_12_9 hT0).1 dX12_wrongAtEnd_14 ?_
  refine z_iconst (v := (0 : Int32)) C0 dX12_wrongAtEnd_17 (by decide) ?_
  refine z_iald (j := 0) C0 (zs_12_9 hT0).2 (by decide : zin (0 : Int32) 121 = true) (by decide) dX12_wrongAtEnd_18 ?_
  by_cases hc71 : (¬ ((μ (a0 + 3) 0) < ((μ (a0 + 3) 4) + (μ (a0 + 3) 2)))) ∧ (((μ (a0 + 3) 5) + (μ (a0 + 3) 3)) ≤ (μ (a0 + 3) 1))
  · have h := zif_t hc71 h
    refine z_join μ 46 [(0, .ref (zb g + a0))] [] ?_ (fun k72 => ?_)
    · refine z_aload_n C0 dX12_wrongAtEnd_46 rfl 0 rfl ?_
      refine z_getr C0 hT0 kf_12_17 zr_12_9 zx_12 (zs_12_9 hT0).1 dX12_wrongAtEnd_47 ?_
      refine z_iconst (v := (2 : Int32)) C0 dX12_wrongAtEnd_50 (by decide) ?_
      refine z_iald (j := 2) C0 (zs_12_9 hT0).2 (by decide : zin (2 : Int32) 121 = true) (by decide) dX12_wrongAtEnd_51 ?_
      refine z_aload_n C0 dX12_wrongAtEnd_52 rfl 0 rfl ?_
      refine z_getr C0 hT0 kf_12_17 zr_12_9 zx_12 (zs_12_9 hT0).1 dX12_wrongAtEnd_53 ?_
      refine z_iconst (v := (3 : Int32)) C0 dX12_wrongAtEnd_56 (by decide) ?_
      refine z_iald (j := 3) C0 (zs_12_9 hT0).2 (by decide : zin (3 : Int32) 121 = true) (by decide) dX12_wrongAtEnd_57 ?_
      refine z_imul C0 dX12_wrongAtEnd_58 ?_
      obtain ⟨x3, e_x3, h⟩ := zl_of h
      refine z_nm e_x3 ?_
      refine z_istore_n (lo1 := [(1, .int x3), (0, .ref (zb g + a0))]) C0 dX12_wrongAtEnd_59 rfl (by decide) rfl ?_
      refine z_iconst (v := (1 : Int32)) C0 dX12_wrongAtEnd_60 (by decide) ?_
      refine z_istore_n (lo1 := [(2, .int (1 : Int32)), (1, .int x3), (0, .ref (zb g + a0))]) C0 dX12_wrongAtEnd_61 rfl (by decide) rfl ?_
      refine z_iconst (v := (0 : Int32)) C0 dX12_wrongAtEnd_62 (by decide) ?_
      refine z_istore_n (lo1 := [(3, .int (0 : Int32)), (2, .int (1 : Int32)), (1, .int x3), (0, .ref (zb g + a0))]) C0 dX12_wrongAtEnd_63 rfl (by decide) rfl ?_
      refine z_sub (lo1 := [(0, .ref (zb g + a0)), (1, .int x3), (2, .int (1 : Int32)), (3, .int (0 : Int32))]) [3, 2, 1, 0] rfl ?_
      obtain ⟨x21, e_x21, h⟩ := zbd_of h
      refine r_X12_wrongAtEnd_L64 C0 a0 x3 μ hT0 zFU (1 : Int32) (0 : Int32) x21 e_x21 ?_
      refine z_iconst (v := (0 : Int32)) C0 dX12_wrongAtEnd_106 (by decide) ?_
      refine z_istore_n (lo1 := [(3, .int (0 : Int32)), (0, .ref (zb g + a0)), (1, .int x3), (2, .int x21)]) C0 dX12_wrongAtEnd_107 rfl (by decide) rfl ?_
      refine z_sub (lo1 := [(0, .ref (zb g + a0)), (1, .int x3), (2, .int x21), (3, .int (0 : Int32))]) [1, 2, 3, 0] rfl ?_
      obtain ⟨x39, e_x39, h⟩ := zbd_of h
      refine r_X12_wrongAtEnd_L108 C0 a0 x3 μ hT0 zFU x21 (0 : Int32) x39 e_x39 ?_
      refine z_iload_n C0 dX12_wrongAtEnd_150 rfl 1 rfl ?_
      refine z_if_ne C0 156 dX12_wrongAtEnd_151 (by decide) (fun c40 => ?_) (fun c40 => ?_)
      · have h := zif_t c40 h
        refine z_iconst (v := (0 : Int32)) C0 dX12_wrongAtEnd_156 (by decide) ?_
        refine z_istore_n (lo1 := [(3, .int (0 : Int32)), (0, .ref (zb g + a0)), (2, .int x39)]) C0 dX12_wrongAtEnd_157 rfl (by decide) rfl ?_
        refine z_sub (lo1 := [(0, .ref (zb g + a0)), (2, .int x39), (3, .int (0 : Int32))]) [1, 2, 0] rfl ?_
        obtain ⟨x58, e_x58, h⟩ := zbd_of h
        refine r_X12_wrongAtEnd_L158 C0 a0 μ hT0 zFU x39 (0 : Int32) x58 e_x58 ?_
        refine z_iload_n C0 dX12_wrongAtEnd_293 rfl 0 rfl ?_
        obtain ⟨x61, e_x61, h⟩ := zl_of h
        refine z_join μ 303 [] [.int x61] ?_ (fun k_J60 => ?_)
        · have h := Option.some.inj h
          obtain rfl := h
          exact z_iret C0 rfl dX12_wrongAtEnd_303
        · have h := e_x61.symm
          refine z_if_eq C0 301 dX12_wrongAtEnd_294 (by decide) (fun c59 => ?_) (fun c59 => ?_)
          · have h := zif_t c59 h
            refine z_bipush (v := (6 : Int32)) C0 dX12_wrongAtEnd_301 (by decide) ?_
            refine z_sub (lo1 := []) [] rfl ?_
            obtain rfl := h
            exact k_J60
          · have h := zif_f c59 h
            refine z_iconst (v := (0 : Int32)) C0 dX12_wrongAtEnd_297 (by decide) ?_
            refine z_goto C0 303 dX12_wrongAtEnd_298 (by decide) ?_
            refine z_sub (lo1 := []) [] rfl ?_
            obtain rfl := h
            exact k_J60
      · have h := zif_f (fun q => q c40) h
        refine z_iconst (v := (5 : Int32)) C0 dX12_wrongAtEnd_154 (by decide) ?_
        have h := Option.some.inj h
        obtain rfl := h
        exact z_iret C0 rfl dX12_wrongAtEnd_155
    · refine z_icmp_gt C0 44 dX12_wrongAtEnd_19 (by decide) (fun c1 => ?_) (fun c1 => ?_)
      · exact absurd hc71 (fun q => q.1 c1)
      · refine z_aload_n C0 dX12_wrongAtEnd_22 rfl 0 rfl ?_
        refine z_getr C0 hT0 kf_12_17 zr_12_9 zx_12 (zs_12_9 hT0).1 dX12_wrongAtEnd_23 ?_
        refine z_iconst (v := (5 : Int32)) C0 dX12_wrongAtEnd_26 (by decide) ?_
        refine z_iald (j := 5) C0 (zs_12_9 hT0).2 (by decide : zin (5 : Int32) 121 = true) (by decide) dX12_wrongAtEnd_27 ?_
        refine z_aload_n C0 dX12_wrongAtEnd_28 rfl 0 rfl ?_
        refine z_getr C0 hT0 kf_12_17 zr_12_9 zx_12 (zs_12_9 hT0).1 dX12_wrongAtEnd_29 ?_
        refine z_iconst (v := (3 : Int32)) C0 dX12_wrongAtEnd_32 (by decide) ?_
        refine z_iald (j := 3) C0 (zs_12_9 hT0).2 (by decide : zin (3 : Int32) 121 = true) (by decide) dX12_wrongAtEnd_33 ?_
        refine z_iadd C0 dX12_wrongAtEnd_34 ?_
        refine z_aload_n C0 dX12_wrongAtEnd_35 rfl 0 rfl ?_
        refine z_getr C0 hT0 kf_12_17 zr_12_9 zx_12 (zs_12_9 hT0).1 dX12_wrongAtEnd_36 ?_
        refine z_iconst (v := (1 : Int32)) C0 dX12_wrongAtEnd_39 (by decide) ?_
        refine z_iald (j := 1) C0 (zs_12_9 hT0).2 (by decide : zin (1 : Int32) 121 = true) (by decide) dX12_wrongAtEnd_40 ?_
        refine z_icmp_le C0 46 dX12_wrongAtEnd_41 (by decide) (fun c2 => ?_) (fun c2 => ?_)
        · exact k72
        · exact absurd hc71 (fun q => c2 q.2)
  · have h := zif_f hc71 h
    refine z_join μ 44 [(0, .ref (zb g + a0))] [] ?_ (fun k73 => ?_)
    · refine z_iconst (v := (4 : Int32)) C0 dX12_wrongAtEnd_44 (by decide) ?_
      have h := Option.some.inj h
      obtain rfl := h
      exact z_iret C0 rfl dX12_wrongAtEnd_45
    · refine z_icmp_gt C0 44 dX12_wrongAtEnd_19 (by decide) (fun c1 => ?_) (fun c1 => ?_)
      · exact k73
      · refine z_aload_n C0 dX12_wrongAtEnd_22 rfl 0 rfl ?_
        refine z_getr C0 hT0 kf_12_17 zr_12_9 zx_12 (zs_12_9 hT0).1 dX12_wrongAtEnd_23 ?_
        refine z_iconst (v := (5 : Int32)) C0 dX12_wrongAtEnd_26 (by decide) ?_
        refine z_iald (j := 5) C0 (zs_12_9 hT0).2 (by decide : zin (5 : Int32) 121 = true) (by decide) dX12_wrongAtEnd_27 ?_
        refine z_aload_n C0 dX12_wrongAtEnd_28 rfl 0 rfl ?_
        refine z_getr C0 hT0 kf_12_17 zr_12_9 zx_12 (zs_12_9 hT0).1 dX12_wrongAtEnd_29 ?_
        refine z_iconst (v := (3 : Int32)) C0 dX12_wrongAtEnd_32 (by decide) ?_
        refine z_iald (j := 3) C0 (zs_12_9 hT0).2 (by decide : zin (3 : Int32) 121 = true) (by decide) dX12_wrongAtEnd_33 ?_
        refine z_iadd C0 dX12_wrongAtEnd_34 ?_
        refine z_aload_n C0 dX12_wrongAtEnd_35 rfl 0 rfl ?_
        refine z_getr C0 hT0 kf_12_17 zr_12_9 zx_12 (zs_12_9 hT0).1 dX12_wrongAtEnd_36 ?_
        refine z_iconst (v := (1 : Int32)) C0 dX12_wrongAtEnd_39 (by decide) ?_
        refine z_iald (j := 1) C0 (zs_12_9 hT0).2 (by decide : zin (1 : Int32) 121 = true) (by decide) dX12_wrongAtEnd_40 ?_
        refine z_icmp_le C0 46 dX12_wrongAtEnd_41 (by decide) (fun c2 => ?_) (fun c2 => ?_)
        · exact absurd ⟨c1, c2⟩ hc71
        · exact k73
def f_X12_text_L91 (a0 : Nat) (v1 : Int32) (v2 : Int32) : Nat → zM → Option (zM)
  | 0, _ => none
  | n + 1, μ19 =>
    if ((μ19 a0 8) = 0) ∧ (¬ ((μ19 a0 5) = 0)) then
      if v1 = (0 : Int32) then
        zbd (f_X12_lakeLine a0 μ19) fun μ22 =>
        f_X12_text_L91 a0 v1 v2 n μ22
      else
      if v1 = (1 : Int32) then
        zbd (f_X12_dayLine a0 μ19) fun μ23 =>
        f_X12_text_L91 a0 v1 v2 n μ23
      else
      if v1 = (2 : Int32) then
        zbd (f_X12_nightLine a0 μ19) fun μ24 =>
        f_X12_text_L91 a0 v1 v2 n μ24
      else
      if v1 = (3 : Int32) then
        zbd (f_X12_fogLine a0 μ19) fun μ25 =>
        f_X12_text_L91 a0 v1 v2 n μ25
      else
        zbd (f_X12_lawLine a0 μ19) fun μ26 =>
        f_X12_text_L91 a0 v1 v2 n μ26
    else
      some μ19
def f_X12_text_L250 (a0 : Nat) (v1 : Int32) (x43 : Int32) : Nat → Int32 → zM → Option (zM)
  | 0, _, _ => none
  | n + 1, y50, μ51 =>
    if (f_X12_sizeOf v1) ≤ y50 then
      some μ51
    else
      zg (zin y50 121) <|
      zg (zin ((f_X12_placeOf v1 x43) + y50) 4688) <|
      zl (zup μ51 (a0 + 1) (((f_X12_placeOf v1 x43) + y50).toNatClampNeg) (μ51 (a0 + 3) (y50.toNatClampNeg))) fun μ55 =>
      zl (y50 + (1 : Int32)) fun x56 =>
      f_X12_text_L250 a0 v1 x43 n x56 μ55
def f_X12_text (a0 : Nat) (v1 : Int32) (v2 : Int32) (μ : zM) : Option (Int32 × zM) :=
  zl (zup μ a0 2 (μ (a0 + 1) 5)) fun μ1 =>
  zl (zup μ1 (a0 + 1) 5 (0 : Int32)) fun μ2 =>
  zl (zup μ2 (a0 + 1) 6 (0 : Int32)) fun μ3 =>
  zl (zup μ3 (a0 + 1) 7 (-1 : Int32)) fun μ4 =>
  zbd (if (f_X12_isIn v1 (0 : Int32) (4 : Int32)) = 0 then
      some false
    else
      if ¬ v2 = (-1 : Int32) then
        zbd (f_X12_isOf a0 v1 v2 μ4) fun r11 =>
        if ¬ r11 = 0 then
          some true
        else
          some false
      else
        zg (zin v1 4688) <|
        if (μ4 (a0 + 1) (v1.toNatClampNeg)) < (2 : Int32) then
          some true
        else
          some false) fun b13 =>
  if b13 = true then
    zl (zup μ4 a0 3 (0 : Int32)) fun μ14 =>
    zl (zup μ14 a0 8 (0 : Int32)) fun μ15 =>
    zbd (f_X12_clears a0 v1 μ15) fun μ16 =>
    zbd (f_X12_advance a0 μ16) fun μ17 =>
    zbd (f_X12_text_L91 a0 v1 v2 zFU μ17) fun μ27 =>
    zbd (zbd (if ¬ (μ27 (a0 + 1) 6) = 0 then
          some false
        else
          if ¬ v1 = 0 then
            some false
          else
            zbd (f_X12_wrongAtEnd a0 μ27) fun r31 =>
            if r31 = 0 then
              some false
            else
              some true) fun b33 =>
      if b33 = true then
        zbd (f_X12_wrongAtEnd a0 μ27) fun r35 =>
        zl (f_X12_also a0 r35 (μ27 a0 4) μ27) fun μ36 =>
        some μ36
      else
        some μ27) fun μ37 =>
    if (μ37 (a0 + 1) 6) = 0 then
      zbd (if ¬ v2 = (-1 : Int32) then
          some v2
        else
          zg (zin v1 4688) <|
          some (μ37 (a0 + 1) (v1.toNatClampNeg))) fun x43 =>
      zbd (if ¬ v2 = (-1 : Int32) then
          some μ37
        else
          zg (zin v1 4688) <|
          zl (zup μ37 (a0 + 1) (v1.toNatClampNeg) ((μ37 (a0 + 1) (v1.toNatClampNeg)) + (1 : Int32))) fun μ47 =>
          some μ47) fun μ48 =>
      zbd (f_X12_text_L250 a0 v1 x43 zFU (0 : Int32) μ48) fun μ57 =>
      some (x43, μ57)
    else
      some ((-1 : Int32), μ37)
  else
    some ((-2 : Int32), μ4)
set_option maxHeartbeats 4000000 in
set_option maxRecDepth 100000 in
theorem r_X12_text_L91 {l : Launch} {g : zL} {κ : zK} {p : Program} {e : Env} {s : State} {m : MethodId} {args : Array Value} {below : List Frame} {meth : Method} {c : Code} {Q : State → Prop} (C0 : zC p s m args meth c g cX12_text yX12_text 5 (some (.int))) (hSp : zSK g κ) (a0 : Nat) (v1 : Int32) (v2 : Int32) (hU18 : zT zNN zσ1 a0 12) : ∀ (n : Nat) (μ19 : zM) (μ27 : zM), f_X12_text_L91 a0 v1 v2 n μ19 = some μ27 → Z p l e (zrm 8 0 0) s m args below meth c g Q 5 zNN 0 0 zσ1 μ27 171 [(0, .ref (zb g + a0)), (1, .int v1), (2, .int v2)] [] → Z p l e (zrm 8 0 0) s m args below meth c g Q 5 zNN 0 0 zσ1 μ19 91 [(0, .ref (zb g + a0)), (1, .int v1), (2, .int v2)] [] := by
  have hF := hSp.at C0
  intro n
  induction n with
  | zero =>
    intro μ19 μ27 h kx
    rw [f_X12_text_L91] at h
    cases h
  | succ n ih =>
    intro μ19 μ27 h kx
    rw [f_X12_text_L91] at h
    refine z_aload_n C0 dX12_text_91 rfl 0 rfl ?_
    refine z_geti C0 hU18.1 hU18.2.2.1 kf_12_102 zr_12_8 dX12_text_92 ?_
    by_cases hc58 : ((μ19 a0 8) = 0) ∧ (¬ ((μ19 a0 5) = 0))
    · have h := zif_t hc58 h
      refine z_join μ19 105 [(0, .ref (zb g + a0)), (1, .int v1), (2, .int v2)] [] ?_ (fun k59 => ?_)
      · refine z_iload_n C0 dX12_text_105 rfl 1 rfl ?_
        by_cases c60 : v1 = (0 : Int32)
        · have h := zif_t c60 h
          refine z_tabK C0 (30) 136 dX12_text_106 c60 (by decide) (by decide) (by decide) (by decide) ?_
          refine z_aload_n C0 dX12_text_136 rfl 0 rfl ?_
          obtain ⟨μ22, e_μ22, h⟩ := zbd_of h
          refine z_callV (As := []) (rest := []) C0 rfl kc_X12_lakeLine km_RX12_152 (r_X12_lakeLine (l := l) (g := g) a0 μ19 hU18 hSp e_μ22) hU18.1 hU18.2.2.1 rfl (by decide) rfl (Nat.le_of_ble_eq_true rfl) (Nat.le_of_ble_eq_true rfl) (Nat.le_of_ble_eq_true rfl) (Nat.le_of_ble_eq_true rfl) (Nat.le_refl _) rfl rfl dX12_text_137 ?_
          refine z_goto C0 91 dX12_text_140 (by decide) ?_
          exact ih _ _ h kx
        · have h := zif_f c60 h
          by_cases c61 : v1 = (1 : Int32)
          · have h := zif_t c61 h
            refine z_tabK C0 (37) 143 dX12_text_106 c61 (by decide) (by decide) (by decide) (by decide) ?_
            refine z_aload_n C0 dX12_text_143 rfl 0 rfl ?_
            obtain ⟨μ23, e_μ23, h⟩ := zbd_of h
            refine z_callV (As := []) (rest := []) C0 rfl kc_X12_dayLine km_RX12_155 (r_X12_dayLine (l := l) (g := g) a0 μ19 hU18 e_μ23) hU18.1 hU18.2.2.1 rfl (by decide) rfl (Nat.le_of_ble_eq_true rfl) (Nat.le_of_ble_eq_true rfl) (Nat.le_of_ble_eq_true rfl) (Nat.le_of_ble_eq_true rfl) (Nat.le_refl _) rfl rfl dX12_text_144 ?_
            refine z_goto C0 91 dX12_text_147 (by decide) ?_
            exact ih _ _ h kx
          · have h := zif_f c61 h
            by_cases c62 : v1 = (2 : Int32)
            · have h := zif_t c62 h
              refine z_tabK C0 (44) 150 dX12_text_106 c62 (by decide) (by decide) (by decide) (by decide) ?_
              refine z_aload_n C0 dX12_text_150 rfl 0 rfl ?_
              obtain ⟨μ24, e_μ24, h⟩ := zbd_of h
              refine z_callV (As := []) (rest := []) C0 rfl kc_X12_nightLine km_RX12_158 (r_X12_nightLine (l := l) (g := g) a0 μ19 hU18 hSp e_μ24) hU18.1 hU18.2.2.1 rfl (by decide) rfl (Nat.le_of_ble_eq_true rfl) (Nat.le_of_ble_eq_true rfl) (Nat.le_of_ble_eq_true rfl) (Nat.le_of_ble_eq_true rfl) (Nat.le_refl _) rfl rfl dX12_text_151 ?_
              refine z_goto C0 91 dX12_text_154 (by decide) ?_
              exact ih _ _ h kx
            · have h := zif_f c62 h
              by_cases c63 : v1 = (3 : Int32)
              · have h := zif_t c63 h
                refine z_tabK C0 (51) 157 dX12_text_106 c63 (by decide) (by decide) (by decide) (by decide) ?_
                refine z_aload_n C0 dX12_text_157 rfl 0 rfl ?_
                obtain ⟨μ25, e_μ25, h⟩ := zbd_of h
                refine z_callV (As := []) (rest := []) C0 rfl kc_X12_fogLine km_RX12_161 (r_X12_fogLine (l := l) (g := g) a0 μ19 hU18 e_μ25) hU18.1 hU18.2.2.1 rfl (by decide) rfl (Nat.le_of_ble_eq_true rfl) (Nat.le_of_ble_eq_true rfl) (Nat.le_of_ble_eq_true rfl) (Nat.le_of_ble_eq_true rfl) (Nat.le_refl _) rfl rfl dX12_text_158 ?_
                refine z_goto C0 91 dX12_text_161 (by decide) ?_
                exact ih _ _ h kx
              · have h := zif_f c63 h
                refine z_join μ19 164 [(0, .ref (zb g + a0)), (1, .int v1), (2, .int v2)] [] ?_ (fun k64 => ?_)
                · refine z_aload_n C0 dX12_text_164 rfl 0 rfl ?_
                  obtain ⟨μ26, e_μ26, h⟩ := zbd_of h
                  refine z_callV (As := []) (rest := []) C0 rfl kc_X12_lawLine km_RX12_164 (r_X12_lawLine (l := l) (g := g) a0 μ19 hU18 e_μ26) hU18.1 hU18.2.2.1 rfl (by decide) rfl (Nat.le_of_ble_eq_true rfl) (Nat.le_of_ble_eq_true rfl) (Nat.le_of_ble_eq_true rfl) (Nat.le_of_ble_eq_true rfl) (Nat.le_refl _) rfl rfl dX12_text_165 ?_
                  refine z_goto C0 91 dX12_text_168 (by decide) ?_
                  exact ih _ _ h kx
                · have c60 : v1.toInt ≠ 0 := fun q => c60 (Int32.toInt_inj.mp (q.trans (by decide)))
                  have c61 : v1.toInt ≠ 1 := fun q => c61 (Int32.toInt_inj.mp (q.trans (by decide)))
                  have c62 : v1.toInt ≠ 2 := fun q => c62 (Int32.toInt_inj.mp (q.trans (by decide)))
                  have c63 : v1.toInt ≠ 3 := fun q => c63 (Int32.toInt_inj.mp (q.trans (by decide)))
                  exact z_tabOut C0 164 dX12_text_106 (by omega) (by decide) k64
      · refine z_if_ne C0 171 dX12_text_95 (by decide) (fun c20 => ?_) (fun c20 => ?_)
        · exact absurd hc58 (fun q => c20 q.1)
        · refine z_aload_n C0 dX12_text_98 rfl 0 rfl ?_
          refine z_geti C0 hU18.1 hU18.2.2.1 kf_12_79 zr_12_5 dX12_text_99 ?_
          refine z_if_eq C0 171 dX12_text_102 (by decide) (fun c21 => ?_) (fun c21 => ?_)
          · exact absurd hc58 (fun q => (fun q => q c21) q.2)
          · exact k59
    · have h := zif_f hc58 h
      refine z_join μ19 171 [(0, .ref (zb g + a0)), (1, .int v1), (2, .int v2)] [] ?_ (fun k65 => ?_)
      · obtain rfl := (Option.some.inj h)
        exact kx
      · refine z_if_ne C0 171 dX12_text_95 (by decide) (fun c20 => ?_) (fun c20 => ?_)
        · exact k65
        · refine z_aload_n C0 dX12_text_98 rfl 0 rfl ?_
          refine z_geti C0 hU18.1 hU18.2.2.1 kf_12_79 zr_12_5 dX12_text_99 ?_
          refine z_if_eq C0 171 dX12_text_102 (by decide) (fun c21 => ?_) (fun c21 => ?_)
          · exact k65
          · exact absurd ⟨c20, c21⟩ hc58
set_option maxHeartbeats 4000000 in
set_option maxRecDepth 100000 in
theorem r_X12_text_L250 {l : Launch} {g : zL} {κ : zK} {p : Program} {e : Env} {s : State} {m : MethodId} {args : Array Value} {below : List Frame} {meth : Method} {c : Code} {Q : State → Prop} (C0 : zC p s m args meth c g cX12_text yX12_text 5 (some (.int))) (hSp : zSK g κ) (a0 : Nat) (v1 : Int32) (x43 : Int32) (hU49 : zT zNN zσ1 a0 12) : ∀ (n : Nat) (y50 : Int32) (μ51 : zM) (μ57 : zM), f_X12_text_L250 a0 v1 x43 n y50 μ51 = some μ57 → Z p l e (zrm 8 0 0) s m args below meth c g Q 5 zNN 0 0 zσ1 μ57 285 [(3, .int x43)] [] → Z p l e (zrm 8 0 0) s m args below meth c g Q 5 zNN 0 0 zσ1 μ51 250 [(0, .ref (zb g + a0)), (1, .int v1), (3, .int x43), (4, .int y50)] [] := by
  have hF := hSp.at C0
  intro n
  induction n with
  | zero =>
    intro y50 μ51 μ57 h kx
    rw [f_X12_text_L250] at h
    cases h
  | succ n ih =>
    intro y50 μ51 μ57 h kx
    rw [f_X12_text_L250] at h
    refine z_iload C0 dX12_text_250 3 rfl ?_
    refine z_iload_n C0 dX12_text_252 rfl 1 rfl ?_
    refine z_callS (As := [.int v1]) (rest := [.int y50]) C0 rfl kc_X12_sizeOf km_RX12_171 (r_X12_sizeOf (l := l) (g := g) (μ := μ51) v1 rfl) rfl (Nat.le_of_ble_eq_true rfl) (Nat.le_of_ble_eq_true rfl) (Nat.le_of_ble_eq_true rfl) (Nat.le_of_ble_eq_true rfl) (Nat.le_refl _) rfl rfl dX12_text_253 ?_
    refine z_icmp_ge C0 285 dX12_text_256 (by decide) (fun c52 => ?_) (fun c52 => ?_)
    · have h := zif_t c52 h
      refine z_sub (lo1 := [(3, .int x43)]) [2] rfl ?_
      obtain rfl := (Option.some.inj h)
      exact kx
    · have h := zif_f c52 h
      refine z_aload_n C0 dX12_text_259 rfl 0 rfl ?_
      refine z_getr C0 hU49 kf_12_7 zr_12_0 zx_12 (zs_12_0 hU49).1 dX12_text_260 ?_
      refine z_iload_n C0 dX12_text_263 rfl 1 rfl ?_
      refine z_iload_n C0 dX12_text_264 rfl 2 rfl ?_
      refine z_callS (As := [.int v1, .int x43]) (rest := [.ref (zb g + (a0 + 1))]) C0 rfl kc_X12_placeOf km_RX12_174 (r_X12_placeOf (l := l) (g := g) (μ := μ51) v1 x43 rfl) rfl (Nat.le_of_ble_eq_true rfl) (Nat.le_of_ble_eq_true rfl) (Nat.le_of_ble_eq_true rfl) (Nat.le_of_ble_eq_true rfl) (Nat.le_refl _) rfl rfl dX12_text_265 ?_
      refine z_iload C0 dX12_text_268 3 rfl ?_
      refine z_iadd C0 dX12_text_270 ?_
      refine z_aload_n C0 dX12_text_271 rfl 0 rfl ?_
      refine z_getr C0 hU49 kf_12_17 zr_12_9 zx_12 (zs_12_9 hU49).1 dX12_text_272 ?_
      refine z_iload C0 dX12_text_275 3 rfl ?_
      obtain ⟨g53, h⟩ := zg_of h
      refine z_iald C0 (zs_12_9 hU49).2 g53 rfl dX12_text_277 ?_
      obtain ⟨g54, h⟩ := zg_of h
      obtain ⟨μ55, e_μ55, h⟩ := zl_of h
      refine z_iast C0 (zs_12_0 hU49).2 g54 rfl e_μ55 dX12_text_278 ?_
      obtain ⟨x56, e_x56, h⟩ := zl_of h
      refine z_iinc (lo1 := [(4, .int x56), (0, .ref (zb g + a0)), (1, .int v1), (3, .int x43)]) C0 dX12_text_279 3 rfl (by decide) e_x56.symm (by decide) rfl ?_
      refine z_goto C0 250 dX12_text_282 (by decide) ?_
      refine z_sub (lo1 := [(0, .ref (zb g + a0)), (1, .int v1), (3, .int x43), (4, .int x56)]) [1, 2, 3, 0] rfl ?_
      exact ih _ _ _ h kx
set_option maxHeartbeats 4000000 in
set_option maxRecDepth 100000 in
theorem r_X12_text {l : Launch} {g : zL} {κ : zK} (a0 : Nat) (v1 : Int32) (v2 : Int32) (μ : zM) (hT0 : zT zNN zσ1 a0 12) (hSp : zSK g κ) {rv : Int32} {μr : zM} (h : f_X12_text a0 v1 v2 μ = some (rv, μr)) : zMet l g yX12_text cX12_text 5 (some (.int)) 8 0 0 zNN zNN zσ1 zσ1 [.ref (zb g + a0), .int v1, .int v2] μ (some (.int rv)) μr := by
  refine zMet.of (by decide +kernel) (Nat.le_of_ble_eq_true rfl) ?_
  intro p e s m args below meth c C0
  have hF := hSp.at C0
  refine z_loc (lo1 := [(0, .ref (zb g + a0)), (1, .int v1), (2, .int v2)]) rfl ?_
  unfold f_X12_text at h
  refine z_aload_n C0 dX12_text_0 rfl 0 rfl ?_
  refine z_aload_n C0 dX12_text_1 rfl 0 rfl ?_
  refine z_getr C0 hT0 kf_12_7 zr_12_0 zx_12 (zs_12_0 hT0).1 dX12_text_2 ?_
  refine z_iconst (v := (5 : Int32)) C0 dX12_text_5 (by decide) ?_
  refine z_iald (j := 5) C0 (zs_12_0 hT0).2 (by decide : zin (5 : Int32) 4688 = true) (by decide) dX12_text_6 ?_
  obtain ⟨μ1, e_μ1, h⟩ := zl_of h
  refine z_puti C0 hT0.1 hT0.2.2.1 kf_12_51 zp_12_2 zr_12_2 e_μ1 dX12_text_7 ?_
  refine z_aload_n C0 dX12_text_10 rfl 0 rfl ?_
  refine z_getr C0 hT0 kf_12_7 zr_12_0 zx_12 (zs_12_0 hT0).1 dX12_text_11 ?_
  refine z_iconst (v := (5 : Int32)) C0 dX12_text_14 (by decide) ?_
  refine z_iconst (v := (0 : Int32)) C0 dX12_text_15 (by decide) ?_
  obtain ⟨μ2, e_μ2, h⟩ := zl_of h
  refine z_iast (j := 5) C0 (zs_12_0 hT0).2 (by decide : zin (5 : Int32) 4688 = true) (by decide) e_μ2 dX12_text_16 ?_
  refine z_aload_n C0 dX12_text_17 rfl 0 rfl ?_
  refine z_getr C0 hT0 kf_12_7 zr_12_0 zx_12 (zs_12_0 hT0).1 dX12_text_18 ?_
  refine z_bipush (v := (6 : Int32)) C0 dX12_text_21 (by decide) ?_
  refine z_iconst (v := (0 : Int32)) C0 dX12_text_23 (by decide) ?_
  obtain ⟨μ3, e_μ3, h⟩ := zl_of h
  refine z_iast (j := 6) C0 (zs_12_0 hT0).2 (by decide : zin (6 : Int32) 4688 = true) (by decide) e_μ3 dX12_text_24 ?_
  refine z_aload_n C0 dX12_text_25 rfl 0 rfl ?_
  refine z_getr C0 hT0 kf_12_7 zr_12_0 zx_12 (zs_12_0 hT0).1 dX12_text_26 ?_
  refine z_bipush (v := (7 : Int32)) C0 dX12_text_29 (by decide) ?_
  refine z_iconst (v := (-1 : Int32)) C0 dX12_text_31 (by decide) ?_
  obtain ⟨μ4, e_μ4, h⟩ := zl_of h
  refine z_iast (j := 7) C0 (zs_12_0 hT0).2 (by decide : zin (7 : Int32) 4688 = true) (by decide) e_μ4 dX12_text_32 ?_
  refine z_iload_n C0 dX12_text_33 rfl 1 rfl ?_
  refine z_iconst (v := (0 : Int32)) C0 dX12_text_34 (by decide) ?_
  refine z_iconst (v := (4 : Int32)) C0 dX12_text_35 (by decide) ?_
  refine z_callS (As := [.int v1, .int (0 : Int32), .int (4 : Int32)]) (rest := []) C0 rfl kc_X12_isIn km_RX12_109 (r_X12_isIn (l := l) (g := g) (μ := μ4) v1 (0 : Int32) (4 : Int32) rfl) rfl (Nat.le_of_ble_eq_true rfl) (Nat.le_of_ble_eq_true rfl) (Nat.le_of_ble_eq_true rfl) (Nat.le_of_ble_eq_true rfl) (Nat.le_refl _) rfl rfl dX12_text_36 ?_
  obtain ⟨b13, e_b13, h⟩ := zbd_of h
  refine z_joinb b13 μ4 72 69 [(0, .ref (zb g + a0)), (1, .int v1), (2, .int v2)] [] (fun z68 => ?_) (fun z68 => ?_) (fun k66 k67 => ?_)
  · have h := zif_t z68 h
    refine z_aload_n C0 dX12_text_72 rfl 0 rfl ?_
    refine z_iconst (v := (0 : Int32)) C0 dX12_text_73 (by decide) ?_
    obtain ⟨μ14, e_μ14, h⟩ := zl_of h
    refine z_puti C0 hT0.1 hT0.2.2.1 kf_12_69 zp_12_3 zr_12_3 e_μ14 dX12_text_74 ?_
    refine z_aload_n C0 dX12_text_77 rfl 0 rfl ?_
    refine z_iconst (v := (0 : Int32)) C0 dX12_text_78 (by decide) ?_
    obtain ⟨μ15, e_μ15, h⟩ := zl_of h
    refine z_putb C0 hT0.1 hT0.2.2.1 kf_12_102 zp_12_8 zr_12_8 (by decide) e_μ15 dX12_text_79 ?_
    refine z_aload_n C0 dX12_text_82 rfl 0 rfl ?_
    refine z_iload_n C0 dX12_text_83 rfl 1 rfl ?_
    obtain ⟨μ16, e_μ16, h⟩ := zbd_of h
    refine z_callV (As := [.int v1]) (rest := []) C0 rfl kc_X12_clears km_RX12_148 (r_X12_clears (l := l) (g := g) a0 v1 μ15 hT0 e_μ16) hT0.1 hT0.2.2.1 rfl (by decide) rfl (Nat.le_of_ble_eq_true rfl) (Nat.le_of_ble_eq_true rfl) (Nat.le_of_ble_eq_true rfl) (Nat.le_of_ble_eq_true rfl) (Nat.le_refl _) rfl rfl dX12_text_84 ?_
    refine z_aload_n C0 dX12_text_87 rfl 0 rfl ?_
    obtain ⟨μ17, e_μ17, h⟩ := zbd_of h
    refine z_callV (As := []) (rest := []) C0 rfl kc_X12_advance km_RX12_117 (r_X12_advance (l := l) (g := g) a0 μ16 hT0 e_μ17) hT0.1 hT0.2.2.1 rfl (by decide) rfl (Nat.le_of_ble_eq_true rfl) (Nat.le_of_ble_eq_true rfl) (Nat.le_of_ble_eq_true rfl) (Nat.le_of_ble_eq_true rfl) (Nat.le_refl _) rfl rfl dX12_text_88 ?_
    obtain ⟨μ27, e_μ27, h⟩ := zbd_of h
    refine r_X12_text_L91 C0 hSp a0 v1 v2 hT0 zFU μ17 μ27 e_μ27 ?_
    refine z_aload_n C0 dX12_text_171 rfl 0 rfl ?_
    refine z_getr C0 hT0 kf_12_7 zr_12_0 zx_12 (zs_12_0 hT0).1 dX12_text_172 ?_
    refine z_bipush (v := (6 : Int32)) C0 dX12_text_175 (by decide) ?_
    refine z_iald (j := 6) C0 (zs_12_0 hT0).2 (by decide : zin (6 : Int32) 4688 = true) (by decide) dX12_text_177 ?_
    obtain ⟨μ37, e_μ37, h⟩ := zbd_of h
    refine z_join μ37 204 [(0, .ref (zb g + a0)), (1, .int v1), (2, .int v2)] [] ?_ (fun k_J34 => ?_)
    · refine z_aload_n C0 dX12_text_204 rfl 0 rfl ?_
      refine z_getr C0 hT0 kf_12_7 zr_12_0 zx_12 (zs_12_0 hT0).1 dX12_text_205 ?_
      refine z_bipush (v := (6 : Int32)) C0 dX12_text_208 (by decide) ?_
      refine z_iald (j := 6) C0 (zs_12_0 hT0).2 (by decide : zin (6 : Int32) 4688 = true) (by decide) dX12_text_210 ?_
      refine z_if_eq C0 216 dX12_text_211 (by decide) (fun c38 => ?_) (fun c38 => ?_)
      · have h := zif_t c38 h
        refine z_iload_n C0 dX12_text_216 rfl 2 rfl ?_
        refine z_iconst (v := (-1 : Int32)) C0 dX12_text_217 (by decide) ?_
        obtain ⟨x43, e_x43, h⟩ := zbd_of h
        refine z_join μ37 231 [(0, .ref (zb g + a0)), (1, .int v1), (2, .int v2)] [.int x43] ?_ (fun k_J41 => ?_)
        · refine z_istore_n (lo1 := [(3, .int x43), (0, .ref (zb g + a0)), (1, .int v1), (2, .int v2)]) C0 dX12_text_231 rfl (by decide) rfl ?_
          refine z_iload_n C0 dX12_text_232 rfl 3 rfl ?_
          refine z_iconst (v := (-1 : Int32)) C0 dX12_text_233 (by decide) ?_
          obtain ⟨μ48, e_μ48, h⟩ := zbd_of h
          refine z_join μ48 247 [(0, .ref (zb g + a0)), (1, .int v1), (3, .int x43)] [] ?_ (fun k_J45 => ?_)
          · refine z_iconst (v := (0 : Int32)) C0 dX12_text_247 (by decide) ?_
            refine z_istore (lo1 := [(4, .int (0 : Int32)), (0, .ref (zb g + a0)), (1, .int v1), (3, .int x43)]) C0 dX12_text_248 (by decide) rfl ?_
            refine z_sub (lo1 := [(0, .ref (zb g + a0)), (1, .int v1), (3, .int x43), (4, .int (0 : Int32))]) [1, 2, 3, 0] rfl ?_
            obtain ⟨μ57, e_μ57, h⟩ := zbd_of h
            refine r_X12_text_L250 C0 hSp a0 v1 x43 hT0 zFU (0 : Int32) μ48 μ57 e_μ57 ?_
            refine z_iload_n C0 dX12_text_285 rfl 0 rfl ?_
            have h := Option.some.inj h
            obtain ⟨rfl, rfl⟩ := Prod.mk.inj h
            exact z_iret C0 rfl dX12_text_286
          · have h := e_μ48
            refine z_icmp_ne C0 247 dX12_text_234 (by decide) (fun c44 => ?_) (fun c44 => ?_)
            · have h := zif_t c44 h
              refine z_sub (lo1 := [(0, .ref (zb g + a0)), (1, .int v1), (3, .int x43)]) [1, 2, 0] rfl ?_
              obtain rfl := (Option.some.inj h)
              exact k_J45
            · have h := zif_f (fun q => q c44) h
              refine z_aload_n C0 dX12_text_237 rfl 1 rfl ?_
              refine z_getr C0 hT0 kf_12_7 zr_12_0 zx_12 (zs_12_0 hT0).1 dX12_text_238 ?_
              refine z_iload_n C0 dX12_text_241 rfl 2 rfl ?_
              refine z_dup2 C0 dX12_text_242 rfl rfl ?_
              obtain ⟨g46, h⟩ := zg_of h
              refine z_iald C0 (zs_12_0 hT0).2 g46 rfl dX12_text_243 ?_
              refine z_iconst (v := (1 : Int32)) C0 dX12_text_244 (by decide) ?_
              refine z_iadd C0 dX12_text_245 ?_
              obtain ⟨μ47, e_μ47, h⟩ := zl_of h
              refine z_iast C0 (zs_12_0 hT0).2 g46 rfl e_μ47 dX12_text_246 ?_
              refine z_sub (lo1 := [(0, .ref (zb g + a0)), (1, .int v1), (3, .int x43)]) [1, 2, 0] rfl ?_
              obtain rfl := (Option.some.inj h)
              exact k_J45
        · have h := e_x43
          refine z_icmp_ne C0 230 dX12_text_218 (by decide) (fun c40 => ?_) (fun c40 => ?_)
          · have h := zif_t c40 h
            refine z_iload_n C0 dX12_text_230 rfl 2 rfl ?_
            obtain rfl := (Option.some.inj h)
            exact k_J41
          · have h := zif_f (fun q => q c40) h
            refine z_aload_n C0 dX12_text_221 rfl 0 rfl ?_
            refine z_getr C0 hT0 kf_12_7 zr_12_0 zx_12 (zs_12_0 hT0).1 dX12_text_222 ?_
            refine z_iload_n C0 dX12_text_225 rfl 1 rfl ?_
            obtain ⟨g42, h⟩ := zg_of h
            refine z_iald C0 (zs_12_0 hT0).2 g42 rfl dX12_text_226 ?_
            refine z_goto C0 231 dX12_text_227 (by decide) ?_
            obtain rfl := (Option.some.inj h)
            exact k_J41
      · have h := zif_f c38 h
        refine z_iconst (v := (-1 : Int32)) C0 dX12_text_214 (by decide) ?_
        have h := Option.some.inj h
        obtain ⟨rfl, rfl⟩ := Prod.mk.inj h
        exact z_iret C0 rfl dX12_text_215
    · have h := e_μ37
      obtain ⟨b33, e_b33, h⟩ := zbd_of h
      refine z_joinb b33 μ27 192 204 [(0, .ref (zb g + a0)), (1, .int v1), (2, .int v2)] [] (fun z71 => ?_) (fun z71 => ?_) (fun k69 k70 => ?_)
      · have h := zif_t z71 h
        refine z_aload_n C0 dX12_text_192 rfl 0 rfl ?_
        refine z_aload_n C0 dX12_text_193 rfl 0 rfl ?_
        obtain ⟨r35, e_r35, h⟩ := zbd_of h
        refine z_callV (As := []) (rest := [.ref (zb g + a0)]) C0 rfl kc_X12_wrongAtEnd km_RX12_167 (r_X12_wrongAtEnd (l := l) (g := g) a0 μ27 hT0 e_r35) hT0.1 hT0.2.2.1 rfl (by decide) rfl (Nat.le_of_ble_eq_true rfl) (Nat.le_of_ble_eq_true rfl) (Nat.le_of_ble_eq_true rfl) (Nat.le_of_ble_eq_true rfl) (Nat.le_refl _) rfl rfl dX12_text_194 ?_
        refine z_aload_n C0 dX12_text_197 rfl 0 rfl ?_
        refine z_geti C0 hT0.1 hT0.2.2.1 kf_12_76 zr_12_4 dX12_text_198 ?_
        obtain ⟨μ36, e_μ36, h⟩ := zl_of h
        refine z_callV (As := [.int r35, .int (μ27 a0 4)]) (rest := []) C0 rfl kc_X12_also km_RX12_113 (r_X12_also (l := l) (g := g) a0 r35 (μ27 a0 4) μ27 hT0 e_μ36.symm) hT0.1 hT0.2.2.1 rfl (by decide) rfl (Nat.le_of_ble_eq_true rfl) (Nat.le_of_ble_eq_true rfl) (Nat.le_of_ble_eq_true rfl) (Nat.le_of_ble_eq_true rfl) (Nat.le_refl _) rfl rfl dX12_text_201 ?_
        obtain rfl := (Option.some.inj h)
        exact k_J34
      · have h := zif_f (fun q => Bool.noConfusion (z71.symm.trans q)) h
        obtain rfl := (Option.some.inj h)
        exact k_J34
      · have h := e_b33
        refine z_if_ne C0 204 dX12_text_178 (by decide) (fun c28 => ?_) (fun c28 => ?_)
        · have h := zif_t c28 h
          exact k70 (Option.some.inj h).symm
        · have h := zif_f (fun q => q c28) h
          refine z_iload_n C0 dX12_text_181 rfl 1 rfl ?_
          refine z_if_ne C0 204 dX12_text_182 (by decide) (fun c29 => ?_) (fun c29 => ?_)
          · have h := zif_t c29 h
            exact k70 (Option.some.inj h).symm
          · have h := zif_f (fun q => q c29) h
            refine z_aload_n C0 dX12_text_185 rfl 0 rfl ?_
            obtain ⟨r31, e_r31, h⟩ := zbd_of h
            refine z_callV (As := []) (rest := []) C0 rfl kc_X12_wrongAtEnd km_RX12_167 (r_X12_wrongAtEnd (l := l) (g := g) a0 μ27 hT0 e_r31) hT0.1 hT0.2.2.1 rfl (by decide) rfl (Nat.le_of_ble_eq_true rfl) (Nat.le_of_ble_eq_true rfl) (Nat.le_of_ble_eq_true rfl) (Nat.le_of_ble_eq_true rfl) (Nat.le_refl _) rfl rfl dX12_text_186 ?_
            refine z_if_eq C0 204 dX12_text_189 (by decide) (fun c32 => ?_) (fun c32 => ?_)
            · have h := zif_t c32 h
              exact k70 (Option.some.inj h).symm
            · have h := zif_f c32 h
              exact k69 (Option.some.inj h).symm
  · have h := zif_f (fun q => Bool.noConfusion (z68.symm.trans q)) h
    refine z_bipush (v := (-2 : Int32)) C0 dX12_text_69 (by decide) ?_
    have h := Option.some.inj h
    obtain ⟨rfl, rfl⟩ := Prod.mk.inj h
    exact z_iret C0 rfl dX12_text_71
  · have h := e_b13
    refine z_if_eq C0 69 dX12_text_39 (by decide) (fun c5 => ?_) (fun c5 => ?_)
    · have h := zif_t c5 h
      exact k67 (Option.some.inj h).symm
    · have h := zif_f c5 h
      refine z_iload_n C0 dX12_text_42 rfl 2 rfl ?_
      refine z_iconst (v := (-1 : Int32)) C0 dX12_text_43 (by decide) ?_
      refine z_icmp_ne C0 60 dX12_text_44 (by decide) (fun c6 => ?_) (fun c6 => ?_)
      · have h := zif_t c6 h
        refine z_aload_n C0 dX12_text_60 rfl 0 rfl ?_
        refine z_iload_n C0 dX12_text_61 rfl 1 rfl ?_
        refine z_iload_n C0 dX12_text_62 rfl 2 rfl ?_
        obtain ⟨r11, e_r11, h⟩ := zbd_of h
        refine z_callV (As := [.int v1, .int v2]) (rest := []) C0 rfl kc_X12_isOf km_RX12_144 (r_X12_isOf (l := l) (g := g) a0 v1 v2 μ4 hT0 e_r11) hT0.1 hT0.2.2.1 rfl (by decide) rfl (Nat.le_of_ble_eq_true rfl) (Nat.le_of_ble_eq_true rfl) (Nat.le_of_ble_eq_true rfl) (Nat.le_of_ble_eq_true rfl) (Nat.le_refl _) rfl rfl dX12_text_63 ?_
        refine z_if_ne C0 72 dX12_text_66 (by decide) (fun c12 => ?_) (fun c12 => ?_)
        · have h := zif_t c12 h
          exact k66 (Option.some.inj h).symm
        · have h := zif_f (fun q => q c12) h
          exact k67 (Option.some.inj h).symm
      · have h := zif_f (fun q => q c6) h
        refine z_aload_n C0 dX12_text_47 rfl 0 rfl ?_
        refine z_getr C0 hT0 kf_12_7 zr_12_0 zx_12 (zs_12_0 hT0).1 dX12_text_48 ?_
        refine z_iload_n C0 dX12_text_51 rfl 1 rfl ?_
        obtain ⟨g8, h⟩ := zg_of h
        refine z_iald C0 (zs_12_0 hT0).2 g8 rfl dX12_text_52 ?_
        refine z_iconst (v := (2 : Int32)) C0 dX12_text_53 (by decide) ?_
        refine z_icmp_lt C0 72 dX12_text_54 (by decide) (fun c9 => ?_) (fun c9 => ?_)
        · have h := zif_t c9 h
          exact k66 (Option.some.inj h).symm
        · have h := zif_f c9 h
          refine z_goto C0 69 dX12_text_57 (by decide) ?_
          exact k67 (Option.some.inj h).symm
def f_X12_thrift_L58 (a0 : Nat) (v2 : Int32) (v3 : Int32) (μ16 : zM) : Nat → Int32 → Int32 → Option (Int32)
  | 0, _, _ => none
  | n + 1, y14, y15 =>
    if (4 : Int32) ≤ y15 then
      some y14
    else
      zg (zin (((4 : Int32) * (((12 : Int32) * v3) + v2)) + y15) 576) <|
      zl (if y14 ≤ (μ16 (a0 + 11) ((((4 : Int32) * (((12 : Int32) * v3) + v2)) + y15).toNatClampNeg)) then
          y14
        else
          (μ16 (a0 + 11) ((((4 : Int32) * (((12 : Int32) * v3) + v2)) + y15).toNatClampNeg))) fun x25 =>
      zl (y15 + (1 : Int32)) fun x26 =>
      f_X12_thrift_L58 a0 v2 v3 μ16 n x25 x26
def f_X12_thrift (a0 : Nat) (v1 : Int32) (v2 : Int32) (v3 : Int32) (μ : zM) : Option (Int32 × zM) :=
  zbd2 (f_X12_isLake a0 v1 μ) fun r1 μ2 =>
  zbd (if r1 = 0 then
      some false
    else
      zbd (f_X12_of a0 (0 : Int32) μ2) fun r5 =>
      if (f_X12_isIn v2 (0 : Int32) (r5 - (1 : Int32))) = 0 then
        some false
      else
        zbd (f_X12_of a0 (1 : Int32) μ2) fun r8 =>
        if ¬ (f_X12_isIn v3 (0 : Int32) (r8 - (1 : Int32))) = 0 then
          some true
        else
          some false) fun b10 =>
  if b10 = true then
    zbd (f_X12_prices a0 (-1 : Int32) μ2) fun μ11 =>
    zbd (f_X12_spreads a0 (0 : Int32) μ11) fun μ12 =>
    zbd (f_X12_thrift_L58 a0 v2 v3 μ12 zFU (1000000 : Int32) (0 : Int32)) fun x27 =>
    zl (if (1000000 : Int32) ≤ x27 then
        (-1 : Int32)
      else
        x27) fun x30 =>
    some (x30, μ12)
  else
    some ((-1 : Int32), μ2)
set_option maxHeartbeats 4000000 in
set_option maxRecDepth 100000 in
theorem r_X12_thrift_L58 {l : Launch} {g : zL} {p : Program} {e : Env} {s : State} {m : MethodId} {args : Array Value} {below : List Frame} {meth : Method} {c : Code} {Q : State → Prop} (C0 : zC p s m args meth c g cX12_thrift yX12_thrift 6 (some (.int))) (a0 : Nat) (v2 : Int32) (v3 : Int32) (μ16 : zM) (hU13 : zT zNN zσ1 a0 12) : ∀ (n : Nat) (y14 : Int32) (y15 : Int32) (x27 : Int32), f_X12_thrift_L58 a0 v2 v3 μ16 n y14 y15 = some x27 → Z p l e (zrm 5 0 0) s m args below meth c g Q 6 zNN 0 0 zσ1 μ16 114 [(4, .int x27)] [] → Z p l e (zrm 5 0 0) s m args below meth c g Q 6 zNN 0 0 zσ1 μ16 58 [(0, .ref (zb g + a0)), (2, .int v2), (3, .int v3), (4, .int y14), (5, .int y15)] [] := by
  intro n
  induction n with
  | zero =>
    intro y14 y15 x27 h kx
    rw [f_X12_thrift_L58] at h
    cases h
  | succ n ih =>
    intro y14 y15 x27 h kx
    rw [f_X12_thrift_L58] at h
    refine z_iload C0 dX12_thrift_58 4 rfl ?_
    refine z_iconst (v := (4 : Int32)) C0 dX12_thrift_60 (by decide) ?_
    refine z_icmp_ge C0 114 dX12_thrift_61 (by decide) (fun c17 => ?_) (fun c17 => ?_)
    · have h := zif_t c17 h
      refine z_sub (lo1 := [(4, .int y14)]) [3] rfl ?_
      obtain rfl := (Option.some.inj h)
      exact kx
    · have h := zif_f c17 h
      refine z_aload_n C0 dX12_thrift_64 rfl 0 rfl ?_
      refine z_getr C0 hU13 kf_12_41 zr_12_31 zx_12 (zs_12_31 hU13).1 dX12_thrift_65 ?_
      refine z_iconst (v := (4 : Int32)) C0 dX12_thrift_68 (by decide) ?_
      refine z_bipush (v := (12 : Int32)) C0 dX12_thrift_69 (by decide) ?_
      refine z_iload_n C0 dX12_thrift_71 rfl 2 rfl ?_
      refine z_imul C0 dX12_thrift_72 ?_
      refine z_iload_n C0 dX12_thrift_73 rfl 1 rfl ?_
      refine z_iadd C0 dX12_thrift_74 ?_
      refine z_imul C0 dX12_thrift_75 ?_
      refine z_iload C0 dX12_thrift_76 4 rfl ?_
      refine z_iadd C0 dX12_thrift_78 ?_
      obtain ⟨g22, h⟩ := zg_of h
      refine z_iald C0 (zs_12_31 hU13).2 g22 rfl dX12_thrift_79 ?_
      refine z_iload C0 dX12_thrift_80 3 rfl ?_
      obtain ⟨x25, e_x25, h⟩ := zl_of h
      refine z_join μ16 106 [(0, .ref (zb g + a0)), (2, .int v2), (3, .int v3), (5, .int y15)] [.int x25] ?_ (fun k_J24 => ?_)
      · refine z_istore (lo1 := [(4, .int x25), (0, .ref (zb g + a0)), (2, .int v2), (3, .int v3), (5, .int y15)]) C0 dX12_thrift_106 (by decide) rfl ?_
        obtain ⟨x26, e_x26, h⟩ := zl_of h
        refine z_iinc (lo1 := [(5, .int x26), (4, .int x25), (0, .ref (zb g + a0)), (2, .int v2), (3, .int v3)]) C0 dX12_thrift_108 4 rfl (by decide) e_x26.symm (by decide) rfl ?_
        refine z_goto C0 58 dX12_thrift_111 (by decide) ?_
        refine z_sub (lo1 := [(0, .ref (zb g + a0)), (2, .int v2), (3, .int v3), (4, .int x25), (5, .int x26)]) [2, 3, 4, 1, 0] rfl ?_
        exact ih _ _ _ h kx
      · have h := e_x25.symm
        refine z_icmp_ge C0 104 dX12_thrift_82 (by decide) (fun c23 => ?_) (fun c23 => ?_)
        · have h := zif_t c23 h
          refine z_iload C0 dX12_thrift_104 3 rfl ?_
          refine z_sub (lo1 := [(0, .ref (zb g + a0)), (2, .int v2), (3, .int v3), (5, .int y15)]) [0, 1, 2, 4] rfl ?_
          obtain rfl := h
          exact k_J24
        · have h := zif_f c23 h
          refine z_aload_n C0 dX12_thrift_85 rfl 0 rfl ?_
          refine z_getr C0 hU13 kf_12_41 zr_12_31 zx_12 (zs_12_31 hU13).1 dX12_thrift_86 ?_
          refine z_iconst (v := (4 : Int32)) C0 dX12_thrift_89 (by decide) ?_
          refine z_bipush (v := (12 : Int32)) C0 dX12_thrift_90 (by decide) ?_
          refine z_iload_n C0 dX12_thrift_92 rfl 2 rfl ?_
          refine z_imul C0 dX12_thrift_93 ?_
          refine z_iload_n C0 dX12_thrift_94 rfl 1 rfl ?_
          refine z_iadd C0 dX12_thrift_95 ?_
          refine z_imul C0 dX12_thrift_96 ?_
          refine z_iload C0 dX12_thrift_97 4 rfl ?_
          refine z_iadd C0 dX12_thrift_99 ?_
          refine z_iald C0 (zs_12_31 hU13).2 g22 rfl dX12_thrift_100 ?_
          refine z_goto C0 106 dX12_thrift_101 (by decide) ?_
          refine z_sub (lo1 := [(0, .ref (zb g + a0)), (2, .int v2), (3, .int v3), (5, .int y15)]) [0, 1, 2, 4] rfl ?_
          obtain rfl := h
          exact k_J24
set_option maxHeartbeats 4000000 in
set_option maxRecDepth 100000 in
theorem r_X12_thrift {l : Launch} {g : zL} (a0 : Nat) (v1 : Int32) (v2 : Int32) (v3 : Int32) (μ : zM) (hT0 : zT zNN zσ1 a0 12) {rv : Int32} {μr : zM} (h : f_X12_thrift a0 v1 v2 v3 μ = some (rv, μr)) : zMet l g yX12_thrift cX12_thrift 6 (some (.int)) 5 0 0 zNN zNN zσ1 zσ1 [.ref (zb g + a0), .int v1, .int v2, .int v3] μ (some (.int rv)) μr := by
  refine zMet.of (by decide +kernel) (Nat.le_of_ble_eq_true rfl) ?_
  intro p e s m args below meth c C0
  refine z_loc (lo1 := [(0, .ref (zb g + a0)), (1, .int v1), (2, .int v2), (3, .int v3)]) rfl ?_
  unfold f_X12_thrift at h
  refine z_aload_n C0 dX12_thrift_0 rfl 0 rfl ?_
  refine z_iload_n C0 dX12_thrift_1 rfl 1 rfl ?_
  obtain ⟨r1, μ2, e_r1, h⟩ := zbd2_of h
  refine z_callV (As := [.int v1]) (rest := []) C0 rfl kc_X12_isLake km_RX12_186 (r_X12_isLake (l := l) (g := g) a0 v1 μ hT0 e_r1) hT0.1 hT0.2.2.1 rfl (by decide) rfl (Nat.le_of_ble_eq_true rfl) (Nat.le_of_ble_eq_true rfl) (Nat.le_of_ble_eq_true rfl) (Nat.le_of_ble_eq_true rfl) (Nat.le_refl _) rfl rfl dX12_thrift_2 ?_
  obtain ⟨b10, e_b10, h⟩ := zbd_of h
  refine z_joinb b10 μ2 40 38 [(0, .ref (zb g + a0)), (1, .int v1), (2, .int v2), (3, .int v3)] [] (fun z33 => ?_) (fun z33 => ?_) (fun k31 k32 => ?_)
  · have h := zif_t z33 h
    refine z_aload_n C0 dX12_thrift_40 rfl 0 rfl ?_
    refine z_iconst (v := (-1 : Int32)) C0 dX12_thrift_41 (by decide) ?_
    obtain ⟨μ11, e_μ11, h⟩ := zbd_of h
    refine z_callV (As := [.int (-1 : Int32)]) (rest := []) C0 rfl kc_X12_prices km_RX12_339 (r_X12_prices (l := l) (g := g) a0 (-1 : Int32) μ2 hT0 e_μ11) hT0.1 hT0.2.2.1 rfl (by decide) rfl (Nat.le_of_ble_eq_true rfl) (Nat.le_of_ble_eq_true rfl) (Nat.le_of_ble_eq_true rfl) (Nat.le_of_ble_eq_true rfl) (Nat.le_refl _) rfl rfl dX12_thrift_42 ?_
    refine z_aload_n C0 dX12_thrift_45 rfl 0 rfl ?_
    refine z_iconst (v := (0 : Int32)) C0 dX12_thrift_46 (by decide) ?_
    obtain ⟨μ12, e_μ12, h⟩ := zbd_of h
    refine z_callV (As := [.int (0 : Int32)]) (rest := []) C0 rfl kc_X12_spreads km_RX12_348 (r_X12_spreads (l := l) (g := g) a0 (0 : Int32) μ11 hT0 e_μ12) hT0.1 hT0.2.2.1 rfl (by decide) rfl (Nat.le_of_ble_eq_true rfl) (Nat.le_of_ble_eq_true rfl) (Nat.le_of_ble_eq_true rfl) (Nat.le_of_ble_eq_true rfl) (Nat.le_refl _) rfl rfl dX12_thrift_47 ?_
    refine z_ldcw C0 dX12_thrift_50 kk_RX12_335 ?_
    refine z_istore (lo1 := [(4, .int (1000000 : Int32)), (0, .ref (zb g + a0)), (1, .int v1), (2, .int v2), (3, .int v3)]) C0 dX12_thrift_53 (by decide) rfl ?_
    refine z_iconst (v := (0 : Int32)) C0 dX12_thrift_55 (by decide) ?_
    refine z_istore (lo1 := [(5, .int (0 : Int32)), (4, .int (1000000 : Int32)), (0, .ref (zb g + a0)), (1, .int v1), (2, .int v2), (3, .int v3)]) C0 dX12_thrift_56 (by decide) rfl ?_
    refine z_sub (lo1 := [(0, .ref (zb g + a0)), (2, .int v2), (3, .int v3), (4, .int (1000000 : Int32)), (5, .int (0 : Int32))]) [2, 4, 5, 1, 0] rfl ?_
    obtain ⟨x27, e_x27, h⟩ := zbd_of h
    refine r_X12_thrift_L58 C0 a0 v2 v3 μ12 hT0 zFU (1000000 : Int32) (0 : Int32) x27 e_x27 ?_
    refine z_iload C0 dX12_thrift_114 0 rfl ?_
    refine z_ldcw C0 dX12_thrift_116 kk_RX12_335 ?_
    obtain ⟨x30, e_x30, h⟩ := zl_of h
    refine z_join μ12 128 [] [.int x30] ?_ (fun k_J29 => ?_)
    · have h := Option.some.inj h
      obtain ⟨rfl, rfl⟩ := Prod.mk.inj h
      exact z_iret C0 rfl dX12_thrift_128
    · have h := e_x30.symm
      refine z_icmp_ge C0 127 dX12_thrift_119 (by decide) (fun c28 => ?_) (fun c28 => ?_)
      · have h := zif_t c28 h
        refine z_iconst (v := (-1 : Int32)) C0 dX12_thrift_127 (by decide) ?_
        refine z_sub (lo1 := []) [] rfl ?_
        obtain rfl := h
        exact k_J29
      · have h := zif_f c28 h
        refine z_iload C0 dX12_thrift_122 0 rfl ?_
        refine z_goto C0 128 dX12_thrift_124 (by decide) ?_
        refine z_sub (lo1 := []) [] rfl ?_
        obtain rfl := h
        exact k_J29
  · have h := zif_f (fun q => Bool.noConfusion (z33.symm.trans q)) h
    refine z_iconst (v := (-1 : Int32)) C0 dX12_thrift_38 (by decide) ?_
    have h := Option.some.inj h
    obtain ⟨rfl, rfl⟩ := Prod.mk.inj h
    exact z_iret C0 rfl dX12_thrift_39
  · have h := e_b10
    refine z_if_eq C0 38 dX12_thrift_5 (by decide) (fun c3 => ?_) (fun c3 => ?_)
    · have h := zif_t c3 h
      exact k32 (Option.some.inj h).symm
    · have h := zif_f c3 h
      refine z_iload_n C0 dX12_thrift_8 rfl 2 rfl ?_
      refine z_iconst (v := (0 : Int32)) C0 dX12_thrift_9 (by decide) ?_
      refine z_aload_n C0 dX12_thrift_10 rfl 0 rfl ?_
      refine z_iconst (v := (0 : Int32)) C0 dX12_thrift_11 (by decide) ?_
      obtain ⟨r5, e_r5, h⟩ := zbd_of h
      refine z_callV (As := [.int (0 : Int32)]) (rest := [.int (0 : Int32), .int v2]) C0 rfl kc_X12_of km_RX12_180 (r_X12_of (l := l) (g := g) a0 (0 : Int32) μ2 hT0 e_r5) hT0.1 hT0.2.2.1 rfl (by decide) rfl (Nat.le_of_ble_eq_true rfl) (Nat.le_of_ble_eq_true rfl) (Nat.le_of_ble_eq_true rfl) (Nat.le_of_ble_eq_true rfl) (Nat.le_refl _) rfl rfl dX12_thrift_12 ?_
      refine z_iconst (v := (1 : Int32)) C0 dX12_thrift_15 (by decide) ?_
      refine z_isub C0 dX12_thrift_16 ?_
      refine z_callS (As := [.int v2, .int (0 : Int32), .int (r5 - (1 : Int32))]) (rest := []) C0 rfl kc_X12_isIn km_RX12_109 (r_X12_isIn (l := l) (g := g) (μ := μ2) v2 (0 : Int32) (r5 - (1 : Int32)) rfl) rfl (Nat.le_of_ble_eq_true rfl) (Nat.le_of_ble_eq_true rfl) (Nat.le_of_ble_eq_true rfl) (Nat.le_of_ble_eq_true rfl) (Nat.le_refl _) rfl rfl dX12_thrift_17 ?_
      refine z_if_eq C0 38 dX12_thrift_20 (by decide) (fun c6 => ?_) (fun c6 => ?_)
      · have h := zif_t c6 h
        exact k32 (Option.some.inj h).symm
      · have h := zif_f c6 h
        refine z_iload_n C0 dX12_thrift_23 rfl 3 rfl ?_
        refine z_iconst (v := (0 : Int32)) C0 dX12_thrift_24 (by decide) ?_
        refine z_aload_n C0 dX12_thrift_25 rfl 0 rfl ?_
        refine z_iconst (v := (1 : Int32)) C0 dX12_thrift_26 (by decide) ?_
        obtain ⟨r8, e_r8, h⟩ := zbd_of h
        refine z_callV (As := [.int (1 : Int32)]) (rest := [.int (0 : Int32), .int v3]) C0 rfl kc_X12_of km_RX12_180 (r_X12_of (l := l) (g := g) a0 (1 : Int32) μ2 hT0 e_r8) hT0.1 hT0.2.2.1 rfl (by decide) rfl (Nat.le_of_ble_eq_true rfl) (Nat.le_of_ble_eq_true rfl) (Nat.le_of_ble_eq_true rfl) (Nat.le_of_ble_eq_true rfl) (Nat.le_refl _) rfl rfl dX12_thrift_27 ?_
        refine z_iconst (v := (1 : Int32)) C0 dX12_thrift_30 (by decide) ?_
        refine z_isub C0 dX12_thrift_31 ?_
        refine z_callS (As := [.int v3, .int (0 : Int32), .int (r8 - (1 : Int32))]) (rest := []) C0 rfl kc_X12_isIn km_RX12_109 (r_X12_isIn (l := l) (g := g) (μ := μ2) v3 (0 : Int32) (r8 - (1 : Int32)) rfl) rfl (Nat.le_of_ble_eq_true rfl) (Nat.le_of_ble_eq_true rfl) (Nat.le_of_ble_eq_true rfl) (Nat.le_of_ble_eq_true rfl) (Nat.le_refl _) rfl rfl dX12_thrift_32 ?_
        refine z_if_ne C0 40 dX12_thrift_35 (by decide) (fun c9 => ?_) (fun c9 => ?_)
        · have h := zif_t c9 h
          exact k31 (Option.some.inj h).symm
        · have h := zif_f (fun q => q c9) h
          exact k32 (Option.some.inj h).symm
def f_X12_trim_L65 (a0 : Nat) (v2 : Int32) (μ28 : zM) : Nat → Int32 → Int32 → Int32 → Option (Int32)
  | 0, _, _, _ => none
  | n + 1, y25, y26, y27 =>
    zbd (f_X12_places a0 μ28) fun r29 =>
    if r29 ≤ y27 then
      some y25
    else
      zbd (f_X12_ofMourner a0 (v2 - (10 : Int32)) (0 : Int32) μ28) fun r31 =>
      zbd (f_X12_gravesList a0 (0 : Int32) (-1 : Int32) μ28) fun r32 =>
      zbd (f_X12_arm a0 y27 (0 : Int32) μ28) fun r33 =>
      zbd (f_X12_gravesList a0 (1 : Int32) (-1 : Int32) μ28) fun r34 =>
      zbd (f_X12_arm a0 y27 (1 : Int32) μ28) fun r35 =>
      zl ((f_X12_size (r32 + (r31 * r33))) + (f_X12_size (r34 + (r31 * r35)))) fun x36 =>
      zl2 (if (y25 < 0) ∨ (x36 < y26) then
          (y27, x36)
        else
          (y25, y26)) fun x40 x41 =>
      zl (y27 + (1 : Int32)) fun x42 =>
      f_X12_trim_L65 a0 v2 μ28 n x40 x41 x42
def f_X12_trim (a0 : Nat) (v1 : Int32) (v2 : Int32) (μ : zM) : Option (Int32 × zM) :=
  zbd2 (f_X12_isLake a0 v1 μ) fun r1 μ2 =>
  if ¬ r1 = 0 then
    if (¬ (v2 = 0)) ∧ (¬ v2 = (1 : Int32)) then
      if ¬ v2 = (2 : Int32) then
        zbd (f_X12_isMourner a0 (v2 - (10 : Int32)) μ2) fun r22 =>
        if ¬ r22 = 0 then
          zbd (f_X12_trim_L65 a0 v2 μ2 zFU (-1 : Int32) (0 : Int32) (0 : Int32)) fun x43 =>
          some (x43, μ2)
        else
          some ((-1 : Int32), μ2)
      else
        zbd (f_X12_keel a0 μ2) fun r44 =>
        some (r44, μ2)
    else
      zl (if ¬ v2 = (1 : Int32) then
          (0 : Int32)
        else
          (1 : Int32)) fun x47 =>
      zbd (f_X12_heaviest a0 x47 μ2) fun r48 =>
      some (r48, μ2)
  else
    some ((-1 : Int32), μ2)
set_option maxHeartbeats 4000000 in
set_option maxRecDepth 100000 in
theorem r_X12_trim_L65 {l : Launch} {g : zL} {p : Program} {e : Env} {s : State} {m : MethodId} {args : Array Value} {below : List Frame} {meth : Method} {c : Code} {Q : State → Prop} (C0 : zC p s m args meth c g cX12_trim yX12_trim 8 (some (.int))) (a0 : Nat) (v2 : Int32) (μ28 : zM) (hU24 : zT zNN zσ1 a0 12) : ∀ (n : Nat) (y25 : Int32) (y26 : Int32) (y27 : Int32) (x43 : Int32), f_X12_trim_L65 a0 v2 μ28 n y25 y26 y27 = some x43 → Z p l e (zrm 4 0 0) s m args below meth c g Q 8 zNN 0 0 zσ1 μ28 155 [(3, .int x43)] [] → Z p l e (zrm 4 0 0) s m args below meth c g Q 8 zNN 0 0 zσ1 μ28 65 [(0, .ref (zb g + a0)), (2, .int v2), (3, .int y25), (4, .int y26), (5, .int y27)] [] := by
  intro n
  induction n with
  | zero =>
    intro y25 y26 y27 x43 h kx
    rw [f_X12_trim_L65] at h
    cases h
  | succ n ih =>
    intro y25 y26 y27 x43 h kx
    rw [f_X12_trim_L65] at h
    refine z_iload C0 dX12_trim_65 4 rfl ?_
    refine z_aload_n C0 dX12_trim_67 rfl 0 rfl ?_
    obtain ⟨r29, e_r29, h⟩ := zbd_of h
    refine z_callV (As := []) (rest := [.int y27]) C0 rfl kc_X12_places km_RX12_257 (r_X12_places (l := l) (g := g) a0 μ28 hU24 e_r29) hU24.1 hU24.2.2.1 rfl (by decide) rfl (Nat.le_of_ble_eq_true rfl) (Nat.le_of_ble_eq_true rfl) (Nat.le_of_ble_eq_true rfl) (Nat.le_of_ble_eq_true rfl) (Nat.le_refl _) rfl rfl dX12_trim_68 ?_
    refine z_icmp_ge C0 155 dX12_trim_71 (by decide) (fun c30 => ?_) (fun c30 => ?_)
    · have h := zif_t c30 h
      refine z_sub (lo1 := [(3, .int y25)]) [2] rfl ?_
      obtain rfl := (Option.some.inj h)
      exact kx
    · have h := zif_f c30 h
      refine z_aload_n C0 dX12_trim_74 rfl 0 rfl ?_
      refine z_iload_n C0 dX12_trim_75 rfl 1 rfl ?_
      refine z_bipush (v := (10 : Int32)) C0 dX12_trim_76 (by decide) ?_
      refine z_isub C0 dX12_trim_78 ?_
      refine z_iconst (v := (0 : Int32)) C0 dX12_trim_79 (by decide) ?_
      obtain ⟨r31, e_r31, h⟩ := zbd_of h
      refine z_callV (As := [.int (v2 - (10 : Int32)), .int (0 : Int32)]) (rest := []) C0 rfl kc_X12_ofMourner km_RX12_189 (r_X12_ofMourner (l := l) (g := g) a0 (v2 - (10 : Int32)) (0 : Int32) μ28 hU24 e_r31) hU24.1 hU24.2.2.1 rfl (by decide) rfl (Nat.le_of_ble_eq_true rfl) (Nat.le_of_ble_eq_true rfl) (Nat.le_of_ble_eq_true rfl) (Nat.le_of_ble_eq_true rfl) (Nat.le_refl _) rfl rfl dX12_trim_80 ?_
      refine z_istore (lo1 := [(6, .int r31), (0, .ref (zb g + a0)), (2, .int v2), (3, .int y25), (4, .int y26), (5, .int y27)]) C0 dX12_trim_83 (by decide) rfl ?_
      refine z_aload_n C0 dX12_trim_85 rfl 1 rfl ?_
      refine z_iconst (v := (0 : Int32)) C0 dX12_trim_86 (by decide) ?_
      refine z_iconst (v := (-1 : Int32)) C0 dX12_trim_87 (by decide) ?_
      obtain ⟨r32, e_r32, h⟩ := zbd_of h
      refine z_callV (As := [.int (0 : Int32), .int (-1 : Int32)]) (rest := []) C0 rfl kc_X12_gravesList km_RX12_254 (r_X12_gravesList (l := l) (g := g) a0 (0 : Int32) (-1 : Int32) μ28 hU24 e_r32) hU24.1 hU24.2.2.1 rfl (by decide) rfl (Nat.le_of_ble_eq_true rfl) (Nat.le_of_ble_eq_true rfl) (Nat.le_of_ble_eq_true rfl) (Nat.le_of_ble_eq_true rfl) (Nat.le_refl _) rfl rfl dX12_trim_88 ?_
      refine z_iload C0 dX12_trim_91 0 rfl ?_
      refine z_aload_n C0 dX12_trim_93 rfl 1 rfl ?_
      refine z_iload C0 dX12_trim_94 5 rfl ?_
      refine z_iconst (v := (0 : Int32)) C0 dX12_trim_96 (by decide) ?_
      obtain ⟨r33, e_r33, h⟩ := zbd_of h
      refine z_callV (As := [.int y27, .int (0 : Int32)]) (rest := [.int r31, .int r32]) C0 rfl kc_X12_arm km_RX12_192 (r_X12_arm (l := l) (g := g) a0 y27 (0 : Int32) μ28 hU24 e_r33) hU24.1 hU24.2.2.1 rfl (by decide) rfl (Nat.le_of_ble_eq_true rfl) (Nat.le_of_ble_eq_true rfl) (Nat.le_of_ble_eq_true rfl) (Nat.le_of_ble_eq_true rfl) (Nat.le_refl _) rfl rfl dX12_trim_97 ?_
      refine z_imul C0 dX12_trim_100 ?_
      refine z_iadd C0 dX12_trim_101 ?_
      refine z_callS (As := [.int (r32 + (r31 * r33))]) (rest := []) C0 rfl kc_X12_size km_RX12_195 (r_X12_size (l := l) (g := g) (μ := μ28) (r32 + (r31 * r33)) rfl) rfl (Nat.le_of_ble_eq_true rfl) (Nat.le_of_ble_eq_true rfl) (Nat.le_of_ble_eq_true rfl) (Nat.le_of_ble_eq_true rfl) (Nat.le_refl _) rfl rfl dX12_trim_102 ?_
      refine z_aload_n C0 dX12_trim_105 rfl 1 rfl ?_
      refine z_iconst (v := (1 : Int32)) C0 dX12_trim_106 (by decide) ?_
      refine z_iconst (v := (-1 : Int32)) C0 dX12_trim_107 (by decide) ?_
      obtain ⟨r34, e_r34, h⟩ := zbd_of h
      refine z_callV (As := [.int (1 : Int32), .int (-1 : Int32)]) (rest := [.int (f_X12_size (r32 + (r31 * r33)))]) C0 rfl kc_X12_gravesList km_RX12_254 (r_X12_gravesList (l := l) (g := g) a0 (1 : Int32) (-1 : Int32) μ28 hU24 e_r34) hU24.1 hU24.2.2.1 rfl (by decide) rfl (Nat.le_of_ble_eq_true rfl) (Nat.le_of_ble_eq_true rfl) (Nat.le_of_ble_eq_true rfl) (Nat.le_of_ble_eq_true rfl) (Nat.le_refl _) rfl rfl dX12_trim_108 ?_
      refine z_iload C0 dX12_trim_111 0 rfl ?_
      refine z_aload_n C0 dX12_trim_113 rfl 1 rfl ?_
      refine z_iload C0 dX12_trim_114 5 rfl ?_
      refine z_iconst (v := (1 : Int32)) C0 dX12_trim_116 (by decide) ?_
      obtain ⟨r35, e_r35, h⟩ := zbd_of h
      refine z_callV (As := [.int y27, .int (1 : Int32)]) (rest := [.int r31, .int r34, .int (f_X12_size (r32 + (r31 * r33)))]) C0 rfl kc_X12_arm km_RX12_192 (r_X12_arm (l := l) (g := g) a0 y27 (1 : Int32) μ28 hU24 e_r35) hU24.1 hU24.2.2.1 rfl (by decide) rfl (Nat.le_of_ble_eq_true rfl) (Nat.le_of_ble_eq_true rfl) (Nat.le_of_ble_eq_true rfl) (Nat.le_of_ble_eq_true rfl) (Nat.le_refl _) rfl rfl dX12_trim_117 ?_
      refine z_imul C0 dX12_trim_120 ?_
      refine z_iadd C0 dX12_trim_121 ?_
      refine z_callS (As := [.int (r34 + (r31 * r35))]) (rest := [.int (f_X12_size (r32 + (r31 * r33)))]) C0 rfl kc_X12_size km_RX12_195 (r_X12_size (l := l) (g := g) (μ := μ28) (r34 + (r31 * r35)) rfl) rfl (Nat.le_of_ble_eq_true rfl) (Nat.le_of_ble_eq_true rfl) (Nat.le_of_ble_eq_true rfl) (Nat.le_of_ble_eq_true rfl) (Nat.le_refl _) rfl rfl dX12_trim_122 ?_
      refine z_iadd C0 dX12_trim_125 ?_
      obtain ⟨x36, e_x36, h⟩ := zl_of h
      refine z_nm e_x36 ?_
      refine z_istore (lo1 := [(7, .int x36), (6, .int r31), (0, .ref (zb g + a0)), (2, .int v2), (3, .int y25), (4, .int y26), (5, .int y27)]) C0 dX12_trim_126 (by decide) rfl ?_
      refine z_iload_n C0 dX12_trim_128 rfl 4 rfl ?_
      obtain ⟨x40, x41, e_x40, h⟩ := zl2_of h
      refine z_join μ28 149 [(0, .ref (zb g + a0)), (2, .int v2), (3, .int x40), (4, .int x41), (5, .int y27)] [] ?_ (fun k_J39 => ?_)
      · obtain ⟨x42, e_x42, h⟩ := zl_of h
        refine z_iinc (lo1 := [(5, .int x42), (0, .ref (zb g + a0)), (2, .int v2), (3, .int x40), (4, .int x41)]) C0 dX12_trim_149 4 rfl (by decide) e_x42.symm (by decide) rfl ?_
        refine z_goto C0 65 dX12_trim_152 (by decide) ?_
        refine z_sub (lo1 := [(0, .ref (zb g + a0)), (2, .int v2), (3, .int x40), (4, .int x41), (5, .int x42)]) [1, 2, 3, 4, 0] rfl ?_
        exact ih _ _ _ _ h kx
      · have h := e_x40
        by_cases hc49 : (y25 < 0) ∨ (x36 < y26)
        · have h := zif_t hc49 h
          refine z_join μ28 142 [(7, .int x36), (6, .int r31), (0, .ref (zb g + a0)), (2, .int v2), (3, .int y25), (4, .int y26), (5, .int y27)] [] ?_ (fun k50 => ?_)
          · refine z_iload C0 dX12_trim_142 6 rfl ?_
            refine z_istore_n (lo1 := [(3, .int y27), (7, .int x36), (6, .int r31), (0, .ref (zb g + a0)), (2, .int v2), (4, .int y26), (5, .int y27)]) C0 dX12_trim_144 rfl (by decide) rfl ?_
            refine z_iload C0 dX12_trim_145 1 rfl ?_
            refine z_istore (lo1 := [(4, .int x36), (3, .int y27), (7, .int x36), (6, .int r31), (0, .ref (zb g + a0)), (2, .int v2), (5, .int y27)]) C0 dX12_trim_147 (by decide) rfl ?_
            refine z_sub (lo1 := [(0, .ref (zb g + a0)), (2, .int v2), (3, .int y27), (4, .int x36), (5, .int y27)]) [4, 5, 1, 0, 6] rfl ?_
            obtain ⟨rfl, rfl⟩ := Prod.mk.inj h
            exact k_J39
          · refine z_if_lt C0 142 dX12_trim_129 (by decide) (fun c37 => ?_) (fun c37 => ?_)
            · exact k50
            · refine z_iload C0 dX12_trim_132 0 rfl ?_
              refine z_iload C0 dX12_trim_134 5 rfl ?_
              refine z_icmp_lt C0 142 dX12_trim_136 (by decide) (fun c38 => ?_) (fun c38 => ?_)
              · exact k50
              · exact absurd hc49 (fun q => q.elim c37 c38)
        · have h := zif_f hc49 h
          refine z_join μ28 149 [(7, .int x36), (6, .int r31), (0, .ref (zb g + a0)), (2, .int v2), (3, .int y25), (4, .int y26), (5, .int y27)] [] ?_ (fun k51 => ?_)
          · refine z_sub (lo1 := [(0, .ref (zb g + a0)), (2, .int v2), (3, .int y25), (4, .int y26), (5, .int y27)]) [2, 3, 4, 5, 6] rfl ?_
            obtain ⟨rfl, rfl⟩ := Prod.mk.inj h
            exact k_J39
          · refine z_if_lt C0 142 dX12_trim_129 (by decide) (fun c37 => ?_) (fun c37 => ?_)
            · exact absurd (Or.inl c37) hc49
            · refine z_iload C0 dX12_trim_132 0 rfl ?_
              refine z_iload C0 dX12_trim_134 5 rfl ?_
              refine z_icmp_lt C0 142 dX12_trim_136 (by decide) (fun c38 => ?_) (fun c38 => ?_)
              · exact absurd (Or.inr c38) hc49
              · refine z_goto C0 149 dX12_trim_139 (by decide) ?_
                exact k51
set_option maxHeartbeats 4000000 in
set_option maxRecDepth 100000 in
theorem r_X12_trim {l : Launch} {g : zL} (a0 : Nat) (v1 : Int32) (v2 : Int32) (μ : zM) (hT0 : zT zNN zσ1 a0 12) {rv : Int32} {μr : zM} (h : f_X12_trim a0 v1 v2 μ = some (rv, μr)) : zMet l g yX12_trim cX12_trim 8 (some (.int)) 4 0 0 zNN zNN zσ1 zσ1 [.ref (zb g + a0), .int v1, .int v2] μ (some (.int rv)) μr := by
  refine zMet.of (by decide +kernel) (Nat.le_of_ble_eq_true rfl) ?_
  intro p e s m args below meth c C0
  refine z_loc (lo1 := [(0, .ref (zb g + a0)), (1, .int v1), (2, .int v2)]) rfl ?_
  unfold f_X12_trim at h
  refine z_aload_n C0 dX12_trim_0 rfl 0 rfl ?_
  refine z_iload_n C0 dX12_trim_1 rfl 1 rfl ?_
  obtain ⟨r1, μ2, e_r1, h⟩ := zbd2_of h
  refine z_callV (As := [.int v1]) (rest := []) C0 rfl kc_X12_isLake km_RX12_186 (r_X12_isLake (l := l) (g := g) a0 v1 μ hT0 e_r1) hT0.1 hT0.2.2.1 rfl (by decide) rfl (Nat.le_of_ble_eq_true rfl) (Nat.le_of_ble_eq_true rfl) (Nat.le_of_ble_eq_true rfl) (Nat.le_of_ble_eq_true rfl) (Nat.le_refl _) rfl rfl dX12_trim_2 ?_
  refine z_if_ne C0 10 dX12_trim_5 (by decide) (fun c3 => ?_) (fun c3 => ?_)
  · have h := zif_t c3 h
    refine z_iload_n C0 dX12_trim_10 rfl 2 rfl ?_
    by_cases hc52 : (¬ (v2 = 0)) ∧ (¬ v2 = (1 : Int32))
    · have h := zif_t hc52 h
      refine z_join μ2 34 [(0, .ref (zb g + a0)), (1, .int v1), (2, .int v2)] [] ?_ (fun k53 => ?_)
      · refine z_iload_n C0 dX12_trim_34 rfl 2 rfl ?_
        refine z_iconst (v := (2 : Int32)) C0 dX12_trim_35 (by decide) ?_
        refine z_icmp_ne C0 44 dX12_trim_36 (by decide) (fun c17 => ?_) (fun c17 => ?_)
        · have h := zif_t c17 h
          refine z_aload_n C0 dX12_trim_44 rfl 0 rfl ?_
          refine z_iload_n C0 dX12_trim_45 rfl 2 rfl ?_
          refine z_bipush (v := (10 : Int32)) C0 dX12_trim_46 (by decide) ?_
          refine z_isub C0 dX12_trim_48 ?_
          obtain ⟨r22, e_r22, h⟩ := zbd_of h
          refine z_callV (As := [.int (v2 - (10 : Int32))]) (rest := []) C0 rfl kc_X12_isMourner km_RX12_285 (r_X12_isMourner (l := l) (g := g) a0 (v2 - (10 : Int32)) μ2 hT0 e_r22) hT0.1 hT0.2.2.1 rfl (by decide) rfl (Nat.le_of_ble_eq_true rfl) (Nat.le_of_ble_eq_true rfl) (Nat.le_of_ble_eq_true rfl) (Nat.le_of_ble_eq_true rfl) (Nat.le_refl _) rfl rfl dX12_trim_49 ?_
          refine z_if_ne C0 57 dX12_trim_52 (by decide) (fun c23 => ?_) (fun c23 => ?_)
          · have h := zif_t c23 h
            refine z_iconst (v := (-1 : Int32)) C0 dX12_trim_57 (by decide) ?_
            refine z_istore_n (lo1 := [(3, .int (-1 : Int32)), (0, .ref (zb g + a0)), (1, .int v1), (2, .int v2)]) C0 dX12_trim_58 rfl (by decide) rfl ?_
            refine z_iconst (v := (0 : Int32)) C0 dX12_trim_59 (by decide) ?_
            refine z_istore (lo1 := [(4, .int (0 : Int32)), (3, .int (-1 : Int32)), (0, .ref (zb g + a0)), (1, .int v1), (2, .int v2)]) C0 dX12_trim_60 (by decide) rfl ?_
            refine z_iconst (v := (0 : Int32)) C0 dX12_trim_62 (by decide) ?_
            refine z_istore (lo1 := [(5, .int (0 : Int32)), (4, .int (0 : Int32)), (3, .int (-1 : Int32)), (0, .ref (zb g + a0)), (1, .int v1), (2, .int v2)]) C0 dX12_trim_63 (by decide) rfl ?_
            refine z_sub (lo1 := [(0, .ref (zb g + a0)), (2, .int v2), (3, .int (-1 : Int32)), (4, .int (0 : Int32)), (5, .int (0 : Int32))]) [3, 5, 2, 1, 0] rfl ?_
            obtain ⟨x43, e_x43, h⟩ := zbd_of h
            refine r_X12_trim_L65 C0 a0 v2 μ2 hT0 zFU (-1 : Int32) (0 : Int32) (0 : Int32) x43 e_x43 ?_
            refine z_iload_n C0 dX12_trim_155 rfl 0 rfl ?_
            have h := Option.some.inj h
            obtain ⟨rfl, rfl⟩ := Prod.mk.inj h
            exact z_iret C0 rfl dX12_trim_156
          · have h := zif_f (fun q => q c23) h
            refine z_iconst (v := (-1 : Int32)) C0 dX12_trim_55 (by decide) ?_
            have h := Option.some.inj h
            obtain ⟨rfl, rfl⟩ := Prod.mk.inj h
            exact z_iret C0 rfl dX12_trim_56
        · have h := zif_f (fun q => q c17) h
          refine z_aload_n C0 dX12_trim_39 rfl 0 rfl ?_
          obtain ⟨r44, e_r44, h⟩ := zbd_of h
          refine z_callV (As := []) (rest := []) C0 rfl kc_X12_keel km_RX12_433 (r_X12_keel (l := l) (g := g) a0 μ2 hT0 e_r44) hT0.1 hT0.2.2.1 rfl (by decide) rfl (Nat.le_of_ble_eq_true rfl) (Nat.le_of_ble_eq_true rfl) (Nat.le_of_ble_eq_true rfl) (Nat.le_of_ble_eq_true rfl) (Nat.le_refl _) rfl rfl dX12_trim_40 ?_
          have h := Option.some.inj h
          obtain ⟨rfl, rfl⟩ := Prod.mk.inj h
          exact z_iret C0 rfl dX12_trim_43
      · refine z_if_eq C0 19 dX12_trim_11 (by decide) (fun c10 => ?_) (fun c10 => ?_)
        · exact absurd hc52 (fun q => q.1 c10)
        · refine z_iload_n C0 dX12_trim_14 rfl 2 rfl ?_
          refine z_iconst (v := (1 : Int32)) C0 dX12_trim_15 (by decide) ?_
          refine z_icmp_ne C0 34 dX12_trim_16 (by decide) (fun c16 => ?_) (fun c16 => ?_)
          · exact k53
          · exact absurd hc52 (fun q => (fun q => q c16) q.2)
    · have h := zif_f hc52 h
      refine z_join μ2 19 [(0, .ref (zb g + a0)), (1, .int v1), (2, .int v2)] [] ?_ (fun k54 => ?_)
      · refine z_aload_n C0 dX12_trim_19 rfl 0 rfl ?_
        refine z_iload_n C0 dX12_trim_20 rfl 2 rfl ?_
        refine z_iconst (v := (1 : Int32)) C0 dX12_trim_21 (by decide) ?_
        obtain ⟨x47, e_x47, h⟩ := zl_of h
        refine z_join μ2 30 [] [.int x47, .ref (zb g + a0)] ?_ (fun k_J46 => ?_)
        · obtain ⟨r48, e_r48, h⟩ := zbd_of h
          refine z_callV (As := [.int x47]) (rest := []) C0 rfl kc_X12_heaviest km_RX12_429 (r_X12_heaviest (l := l) (g := g) a0 x47 μ2 hT0 e_r48) hT0.1 hT0.2.2.1 rfl (by decide) rfl (Nat.le_of_ble_eq_true rfl) (Nat.le_of_ble_eq_true rfl) (Nat.le_of_ble_eq_true rfl) (Nat.le_of_ble_eq_true rfl) (Nat.le_refl _) rfl rfl dX12_trim_30 ?_
          have h := Option.some.inj h
          obtain ⟨rfl, rfl⟩ := Prod.mk.inj h
          exact z_iret C0 rfl dX12_trim_33
        · have h := e_x47.symm
          refine z_icmp_ne C0 29 dX12_trim_22 (by decide) (fun c45 => ?_) (fun c45 => ?_)
          · have h := zif_t c45 h
            refine z_iconst (v := (0 : Int32)) C0 dX12_trim_29 (by decide) ?_
            refine z_sub (lo1 := []) [] rfl ?_
            obtain rfl := h
            exact k_J46
          · have h := zif_f (fun q => q c45) h
            refine z_iconst (v := (1 : Int32)) C0 dX12_trim_25 (by decide) ?_
            refine z_goto C0 30 dX12_trim_26 (by decide) ?_
            refine z_sub (lo1 := []) [] rfl ?_
            obtain rfl := h
            exact k_J46
      · refine z_if_eq C0 19 dX12_trim_11 (by decide) (fun c10 => ?_) (fun c10 => ?_)
        · exact k54
        · refine z_iload_n C0 dX12_trim_14 rfl 2 rfl ?_
          refine z_iconst (v := (1 : Int32)) C0 dX12_trim_15 (by decide) ?_
          refine z_icmp_ne C0 34 dX12_trim_16 (by decide) (fun c16 => ?_) (fun c16 => ?_)
          · exact absurd ⟨c10, c16⟩ hc52
          · exact k54
  · have h := zif_f (fun q => q c3) h
    refine z_iconst (v := (-1 : Int32)) C0 dX12_trim_8 (by decide) ?_
    have h := Option.some.inj h
    obtain ⟨rfl, rfl⟩ := Prod.mk.inj h
    exact z_iret C0 rfl dX12_trim_9
