def f_X9_isOuter (a0 : Nat) (v1 : Int32) (v2 : Int32) (μ : zM) : Option (Int32) :=
  zbd (f_X1_lineOf a0 v1 v2 μ) fun r1 =>
  zl (if (¬ (r1 = 0)) ∧ (¬ r1 = ((f_X1_lines a0 v2 μ) - (1 : Int32))) then
      (0 : Int32)
    else
      (1 : Int32)) fun x5 =>
  some x5
set_option maxHeartbeats 4000000 in
set_option maxRecDepth 100000 in
theorem r_X9_isOuter {l : Launch} {g : zL} (a0 : Nat) (v1 : Int32) (v2 : Int32) (μ : zM) (hT0 : zT zNN zσ1 a0 1) {rv : Int32} (h : f_X9_isOuter a0 v1 v2 μ = some rv) : zMet l g yX9_isOuter cX9_isOuter 4 (some (.boolean)) 2 0 0 zNN zNN zσ1 zσ1 [.ref (zb g + a0), .int v1, .int v2] μ (some (.int rv)) μ := by
  refine zMet.of (by decide +kernel) (Nat.le_of_ble_eq_true rfl) ?_
  intro p e s m args below meth c C0
  refine z_loc (lo1 := [(0, .ref (zb g + a0)), (1, .int v1), (2, .int v2)]) rfl ?_
  unfold f_X9_isOuter at h
  refine z_aload_n C0 dX9_isOuter_0 rfl 0 rfl ?_
  refine z_iload_n C0 dX9_isOuter_1 rfl 1 rfl ?_
  refine z_iload_n C0 dX9_isOuter_2 rfl 2 rfl ?_
  obtain ⟨r1, e_r1, h⟩ := zbd_of h
  refine z_callV (As := [.int v1, .int v2]) (rest := []) C0 rfl kc_X1_lineOf km_RX9_71 (r_X1_lineOf (l := l) (g := g) a0 v1 v2 μ hT0 e_r1) hT0.1 hT0.2.2.1 rfl (by decide) rfl (Nat.le_of_ble_eq_true rfl) (Nat.le_of_ble_eq_true rfl) (Nat.le_of_ble_eq_true rfl) (Nat.le_of_ble_eq_true rfl) (Nat.le_refl _) rfl rfl dX9_isOuter_3 ?_
  refine z_istore_n (lo1 := [(3, .int r1), (0, .ref (zb g + a0)), (1, .int v1), (2, .int v2)]) C0 dX9_isOuter_6 rfl (by decide) rfl ?_
  refine z_iload_n C0 dX9_isOuter_7 rfl 0 rfl ?_
  obtain ⟨x5, e_x5, h⟩ := zl_of h
  refine z_join μ 27 [] [.int x5] ?_ (fun k_J4 => ?_)
  · have h := Option.some.inj h
    obtain rfl := h
    exact z_zret C0 rfl (by rw [e_x5]; repeat' split <;> rfl) dX9_isOuter_27
  · have h := e_x5.symm
    by_cases hc6 : (¬ (r1 = 0)) ∧ (¬ r1 = ((f_X1_lines a0 v2 μ) - (1 : Int32)))
    · have h := zif_t hc6 h
      refine z_join μ 26 [(3, .int r1), (0, .ref (zb g + a0)), (1, .int v1), (2, .int v2)] [] ?_ (fun k7 => ?_)
      · refine z_iconst (v := (0 : Int32)) C0 dX9_isOuter_26 (by decide) ?_
        refine z_sub (lo1 := []) [] rfl ?_
        obtain rfl := h
        exact k_J4
      · refine z_if_eq C0 22 dX9_isOuter_8 (by decide) (fun c2 => ?_) (fun c2 => ?_)
        · exact absurd hc6 (fun q => q.1 c2)
        · refine z_iload_n C0 dX9_isOuter_11 rfl 0 rfl ?_
          refine z_aload_n C0 dX9_isOuter_12 rfl 1 rfl ?_
          refine z_iload_n C0 dX9_isOuter_13 rfl 3 rfl ?_
          refine z_callV (As := [.int v2]) (rest := [.int r1]) C0 rfl kc_X1_lines km_RX9_75 (r_X1_lines (l := l) (g := g) a0 v2 μ hT0 rfl) hT0.1 hT0.2.2.1 rfl (by decide) rfl (Nat.le_of_ble_eq_true rfl) (Nat.le_of_ble_eq_true rfl) (Nat.le_of_ble_eq_true rfl) (Nat.le_of_ble_eq_true rfl) (Nat.le_refl _) rfl rfl dX9_isOuter_14 ?_
          refine z_iconst (v := (1 : Int32)) C0 dX9_isOuter_17 (by decide) ?_
          refine z_isub C0 dX9_isOuter_18 ?_
          refine z_icmp_ne C0 26 dX9_isOuter_19 (by decide) (fun c3 => ?_) (fun c3 => ?_)
          · exact k7
          · exact absurd hc6 (fun q => (fun q => q c3) q.2)
    · have h := zif_f hc6 h
      refine z_join μ 22 [(3, .int r1), (0, .ref (zb g + a0)), (1, .int v1), (2, .int v2)] [] ?_ (fun k8 => ?_)
      · refine z_iconst (v := (1 : Int32)) C0 dX9_isOuter_22 (by decide) ?_
        refine z_goto C0 27 dX9_isOuter_23 (by decide) ?_
        refine z_sub (lo1 := []) [] rfl ?_
        obtain rfl := h
        exact k_J4
      · refine z_if_eq C0 22 dX9_isOuter_8 (by decide) (fun c2 => ?_) (fun c2 => ?_)
        · exact k8
        · refine z_iload_n C0 dX9_isOuter_11 rfl 0 rfl ?_
          refine z_aload_n C0 dX9_isOuter_12 rfl 1 rfl ?_
          refine z_iload_n C0 dX9_isOuter_13 rfl 3 rfl ?_
          refine z_callV (As := [.int v2]) (rest := [.int r1]) C0 rfl kc_X1_lines km_RX9_75 (r_X1_lines (l := l) (g := g) a0 v2 μ hT0 rfl) hT0.1 hT0.2.2.1 rfl (by decide) rfl (Nat.le_of_ble_eq_true rfl) (Nat.le_of_ble_eq_true rfl) (Nat.le_of_ble_eq_true rfl) (Nat.le_of_ble_eq_true rfl) (Nat.le_refl _) rfl rfl dX9_isOuter_14 ?_
          refine z_iconst (v := (1 : Int32)) C0 dX9_isOuter_17 (by decide) ?_
          refine z_isub C0 dX9_isOuter_18 ?_
          refine z_icmp_ne C0 26 dX9_isOuter_19 (by decide) (fun c3 => ?_) (fun c3 => ?_)
          · exact absurd ⟨c2, c3⟩ hc6
          · exact k8
def f_X9_findCorners_L7 (a0 : Nat) (a1 : Nat) : Nat → Int32 → zM → Option (zM)
  | 0, _, _ => none
  | n + 1, y4, μ5 =>
    if (¬ ((f_X1_places a1 μ5) ≤ y4)) ∧ (¬ ((4 : Int32) ≤ (μ5 a0 5))) then
      zbd (f_X9_isOuter a1 y4 (0 : Int32) μ5) fun r16 =>
      zbd (zbd (if r16 = 0 then
            some false
          else
            zbd (f_X9_isOuter a1 y4 (1 : Int32) μ5) fun r19 =>
            if r19 = 0 then
              some false
            else
              some true) fun b21 =>
        if b21 = true then
          zg (zin (μ5 a0 5) 4) <|
          zl (zup μ5 (a0 + 1) ((μ5 a0 5).toNatClampNeg) y4) fun μ24 =>
          zl (zup μ24 a0 5 ((μ24 a0 5) + (1 : Int32))) fun μ25 =>
          some μ25
        else
          some μ5) fun μ26 =>
      zl (y4 + (1 : Int32)) fun x27 =>
      f_X9_findCorners_L7 a0 a1 n x27 μ26
    else
      some μ5
def f_X9_findCorners (a0 : Nat) (a1 : Nat) (μ : zM) : Option (zM) :=
  zl (zup μ a0 5 (0 : Int32)) fun μ1 =>
  zbd (f_X9_findCorners_L7 a0 a1 zFU (0 : Int32) μ1) fun μ28 =>
  some μ28
set_option maxHeartbeats 4000000 in
set_option maxRecDepth 100000 in
theorem r_X9_findCorners_L7 {l : Launch} {g : zL} {p : Program} {e : Env} {s : State} {m : MethodId} {args : Array Value} {below : List Frame} {meth : Method} {c : Code} {Q : State → Prop} (C0 : zC p s m args meth c g cX9_findCorners yX9_findCorners 3 none) (a0 : Nat) (a1 : Nat) (hU2 : zT zNN zσ1 a0 9) (hU3 : zT zNN zσ1 a1 1) : ∀ (n : Nat) (y4 : Int32) (μ5 : zM) (μ28 : zM), f_X9_findCorners_L7 a0 a1 n y4 μ5 = some μ28 → Z p l e (zrm 3 0 0) s m args below meth c g Q 3 zNN 0 0 zσ1 μ28 67 [] [] → Z p l e (zrm 3 0 0) s m args below meth c g Q 3 zNN 0 0 zσ1 μ5 7 [(0, .ref (zb g + a0)), (1, .ref (zb g + a1)), (2, .int y4)] [] := by
  intro n
  induction n with
  | zero =>
    intro y4 μ5 μ28 h kx
    rw [f_X9_findCorners_L7] at h
    cases h
  | succ n ih =>
    intro y4 μ5 μ28 h kx
    rw [f_X9_findCorners_L7] at h
    refine z_iload_n C0 dX9_findCorners_7 rfl 2 rfl ?_
    refine z_aload_n C0 dX9_findCorners_8 rfl 1 rfl ?_
    refine z_callV (As := []) (rest := [.int y4]) C0 rfl kc_X1_places km_RX9_63 (r_X1_places (l := l) (g := g) a1 μ5 hU3 rfl) hU3.1 hU3.2.2.1 rfl (by decide) rfl (Nat.le_of_ble_eq_true rfl) (Nat.le_of_ble_eq_true rfl) (Nat.le_of_ble_eq_true rfl) (Nat.le_of_ble_eq_true rfl) (Nat.le_refl _) rfl rfl dX9_findCorners_9 ?_
    by_cases hc29 : (¬ ((f_X1_places a1 μ5) ≤ y4)) ∧ (¬ ((4 : Int32) ≤ (μ5 a0 5)))
    · have h := zif_t hc29 h
      refine z_join μ5 23 [(0, .ref (zb g + a0)), (1, .ref (zb g + a1)), (2, .int y4)] [] ?_ (fun k30 => ?_)
      · refine z_aload_n C0 dX9_findCorners_23 rfl 1 rfl ?_
        refine z_iload_n C0 dX9_findCorners_24 rfl 2 rfl ?_
        refine z_iconst (v := (0 : Int32)) C0 dX9_findCorners_25 (by decide) ?_
        obtain ⟨r16, e_r16, h⟩ := zbd_of h
        refine z_callS (As := [.ref (zb g + a1), .int y4, .int (0 : Int32)]) (rest := []) C0 rfl kc_X9_isOuter km_RX9_67 (r_X9_isOuter (l := l) (g := g) a1 y4 (0 : Int32) μ5 hU3 e_r16) rfl (Nat.le_of_ble_eq_true rfl) (Nat.le_of_ble_eq_true rfl) (Nat.le_of_ble_eq_true rfl) (Nat.le_of_ble_eq_true rfl) (Nat.le_refl _) rfl rfl dX9_findCorners_26 ?_
        obtain ⟨μ26, e_μ26, h⟩ := zbd_of h
        refine z_join μ26 61 [(0, .ref (zb g + a0)), (1, .ref (zb g + a1)), (2, .int y4)] [] ?_ (fun k_J22 => ?_)
        · obtain ⟨x27, e_x27, h⟩ := zl_of h
          refine z_iinc (lo1 := [(2, .int x27), (0, .ref (zb g + a0)), (1, .ref (zb g + a1))]) C0 dX9_findCorners_61 2 rfl (by decide) e_x27.symm (by decide) rfl ?_
          refine z_goto C0 7 dX9_findCorners_64 (by decide) ?_
          refine z_sub (lo1 := [(0, .ref (zb g + a0)), (1, .ref (zb g + a1)), (2, .int x27)]) [1, 2, 0] rfl ?_
          exact ih _ _ _ h kx
        · have h := e_μ26
          obtain ⟨b21, e_b21, h⟩ := zbd_of h
          refine z_joinb b21 μ5 41 61 [(0, .ref (zb g + a0)), (1, .ref (zb g + a1)), (2, .int y4)] [] (fun z33 => ?_) (fun z33 => ?_) (fun k31 k32 => ?_)
          · have h := zif_t z33 h
            refine z_aload_n C0 dX9_findCorners_41 rfl 0 rfl ?_
            refine z_getr C0 hU2 kf_9_11 zr_9_4 zx_9 (zs_9_4 hU2).1 dX9_findCorners_42 ?_
            refine z_aload_n C0 dX9_findCorners_45 rfl 0 rfl ?_
            refine z_geti C0 hU2.1 hU2.2.2.1 kf_9_56 zr_9_5 dX9_findCorners_46 ?_
            refine z_iload_n C0 dX9_findCorners_49 rfl 2 rfl ?_
            obtain ⟨g23, h⟩ := zg_of h
            obtain ⟨μ24, e_μ24, h⟩ := zl_of h
            refine z_iast C0 (zs_9_4 hU2).2 g23 rfl e_μ24 dX9_findCorners_50 ?_
            refine z_aload_n C0 dX9_findCorners_51 rfl 0 rfl ?_
            refine z_dup C0 dX9_findCorners_52 rfl ?_
            refine z_geti C0 hU2.1 hU2.2.2.1 kf_9_56 zr_9_5 dX9_findCorners_53 ?_
            refine z_iconst (v := (1 : Int32)) C0 dX9_findCorners_56 (by decide) ?_
            refine z_iadd C0 dX9_findCorners_57 ?_
            obtain ⟨μ25, e_μ25, h⟩ := zl_of h
            refine z_puti C0 hU2.1 hU2.2.2.1 kf_9_56 zp_9_5 zr_9_5 e_μ25 dX9_findCorners_58 ?_
            obtain rfl := (Option.some.inj h)
            exact k_J22
          · have h := zif_f (fun q => Bool.noConfusion (z33.symm.trans q)) h
            obtain rfl := (Option.some.inj h)
            exact k_J22
          · have h := e_b21
            refine z_if_eq C0 61 dX9_findCorners_29 (by decide) (fun c17 => ?_) (fun c17 => ?_)
            · have h := zif_t c17 h
              exact k32 (Option.some.inj h).symm
            · have h := zif_f c17 h
              refine z_aload_n C0 dX9_findCorners_32 rfl 1 rfl ?_
              refine z_iload_n C0 dX9_findCorners_33 rfl 2 rfl ?_
              refine z_iconst (v := (1 : Int32)) C0 dX9_findCorners_34 (by decide) ?_
              obtain ⟨r19, e_r19, h⟩ := zbd_of h
              refine z_callS (As := [.ref (zb g + a1), .int y4, .int (1 : Int32)]) (rest := []) C0 rfl kc_X9_isOuter km_RX9_67 (r_X9_isOuter (l := l) (g := g) a1 y4 (1 : Int32) μ5 hU3 e_r19) rfl (Nat.le_of_ble_eq_true rfl) (Nat.le_of_ble_eq_true rfl) (Nat.le_of_ble_eq_true rfl) (Nat.le_of_ble_eq_true rfl) (Nat.le_refl _) rfl rfl dX9_findCorners_35 ?_
              refine z_if_eq C0 61 dX9_findCorners_38 (by decide) (fun c20 => ?_) (fun c20 => ?_)
              · have h := zif_t c20 h
                exact k32 (Option.some.inj h).symm
              · have h := zif_f c20 h
                exact k31 (Option.some.inj h).symm
      · refine z_icmp_ge C0 67 dX9_findCorners_12 (by decide) (fun c6 => ?_) (fun c6 => ?_)
        · exact absurd hc29 (fun q => q.1 c6)
        · refine z_aload_n C0 dX9_findCorners_15 rfl 0 rfl ?_
          refine z_geti C0 hU2.1 hU2.2.2.1 kf_9_56 zr_9_5 dX9_findCorners_16 ?_
          refine z_iconst (v := (4 : Int32)) C0 dX9_findCorners_19 (by decide) ?_
          refine z_icmp_ge C0 67 dX9_findCorners_20 (by decide) (fun c14 => ?_) (fun c14 => ?_)
          · exact absurd hc29 (fun q => (fun q => q c14) q.2)
          · exact k30
    · have h := zif_f hc29 h
      refine z_join μ5 67 [(0, .ref (zb g + a0)), (1, .ref (zb g + a1)), (2, .int y4)] [] ?_ (fun k34 => ?_)
      · refine z_sub (lo1 := []) [] rfl ?_
        obtain rfl := (Option.some.inj h)
        exact kx
      · refine z_icmp_ge C0 67 dX9_findCorners_12 (by decide) (fun c6 => ?_) (fun c6 => ?_)
        · exact k34
        · refine z_aload_n C0 dX9_findCorners_15 rfl 0 rfl ?_
          refine z_geti C0 hU2.1 hU2.2.2.1 kf_9_56 zr_9_5 dX9_findCorners_16 ?_
          refine z_iconst (v := (4 : Int32)) C0 dX9_findCorners_19 (by decide) ?_
          refine z_icmp_ge C0 67 dX9_findCorners_20 (by decide) (fun c14 => ?_) (fun c14 => ?_)
          · exact k34
          · exact absurd ⟨c6, c14⟩ hc29
set_option maxHeartbeats 4000000 in
set_option maxRecDepth 100000 in
theorem r_X9_findCorners {l : Launch} {g : zL} (a0 : Nat) (a1 : Nat) (μ : zM) (hT0 : zT zNN zσ1 a0 9) (hT1 : zT zNN zσ1 a1 1) {μr : zM} (h : f_X9_findCorners a0 a1 μ = some μr) : zMet l g yX9_findCorners cX9_findCorners 3 none 3 0 0 zNN zNN zσ1 zσ1 [.ref (zb g + a0), .ref (zb g + a1)] μ none μr := by
  refine zMet.of (by decide +kernel) (Nat.le_of_ble_eq_true rfl) ?_
  intro p e s m args below meth c C0
  refine z_loc (lo1 := [(0, .ref (zb g + a0)), (1, .ref (zb g + a1))]) rfl ?_
  unfold f_X9_findCorners at h
  refine z_aload_n C0 dX9_findCorners_0 rfl 0 rfl ?_
  refine z_iconst (v := (0 : Int32)) C0 dX9_findCorners_1 (by decide) ?_
  obtain ⟨μ1, e_μ1, h⟩ := zl_of h
  refine z_puti C0 hT0.1 hT0.2.2.1 kf_9_56 zp_9_5 zr_9_5 e_μ1 dX9_findCorners_2 ?_
  refine z_iconst (v := (0 : Int32)) C0 dX9_findCorners_5 (by decide) ?_
  refine z_istore_n (lo1 := [(2, .int (0 : Int32)), (0, .ref (zb g + a0)), (1, .ref (zb g + a1))]) C0 dX9_findCorners_6 rfl (by decide) rfl ?_
  refine z_sub (lo1 := [(0, .ref (zb g + a0)), (1, .ref (zb g + a1)), (2, .int (0 : Int32))]) [1, 2, 0] rfl ?_
  obtain ⟨μ28, e_μ28, h⟩ := zbd_of h
  refine r_X9_findCorners_L7 C0 a0 a1 hT0 hT1 zFU (0 : Int32) μ1 μ28 e_μ28 ?_
  have h := Option.some.inj h
  obtain rfl := h
  exact z_vret C0 rfl dX9_findCorners_67
def f_X9_follow_L9 (a1 : Nat) (a2 : Nat) (v3 : Int32) : Nat → Int32 → zM → Option ((Int32 × zM) ⊕ (zM))
  | 0, _, _ => none
  | n + 1, y4, μ5 =>
    if (μ5 a1 2) ≤ y4 then
      some (.inr μ5)
    else
      zbd (f_X4_move a2 ((v3 % (3 : Int32)) - (1 : Int32)) ((v3 / (3 : Int32)) - (1 : Int32)) μ5) fun μ7 =>
      zbd (f_X6_number a1 y4 (0 : Int32) μ7) fun r8 =>
      zbd (if ¬ (μ7 a2 2) = r8 then
          some false
        else
          zbd (f_X6_number a1 y4 (1 : Int32) μ7) fun r11 =>
          if (μ7 a2 3) = r11 then
            some true
          else
            some false) fun b13 =>
      if b13 = true then
        zl (y4 + (1 : Int32)) fun x14 =>
        f_X9_follow_L9 a1 a2 v3 n x14 μ7
      else
        some (.inl (y4, μ7))
def f_X9_follow (a0 : Nat) (a1 : Nat) (a2 : Nat) (v3 : Int32) (μ : zM) : Option (Int32 × zM) :=
  zbd (f_X4_launch a2 a0 a0 μ) fun μ1 =>
  zbd (f_X9_follow_L9 a1 a2 v3 zFU (0 : Int32) μ1) fun q16 => zsum q16 (fun t => some t) fun μ15 =>
  some ((μ15 a1 2), μ15)
set_option maxHeartbeats 4000000 in
set_option maxRecDepth 100000 in
theorem r_X9_follow_L9 {l : Launch} {g : zL} {p : Program} {e : Env} {s : State} {m : MethodId} {args : Array Value} {below : List Frame} {meth : Method} {c : Code} {rv : Int32} {μr : zM} (C0 : zC p s m args meth c g cX9_follow yX9_follow 5 (some (.int))) (a1 : Nat) (a2 : Nat) (v3 : Int32) (hU2 : zT zNN zσ1 a1 6) (hU3 : zT zNN zσ1 a2 4) : ∀ (n : Nat) (y4 : Int32) (μ5 : zM) (q : (Int32 × zM) ⊕ (zM)), f_X9_follow_L9 a1 a2 v3 n y4 μ5 = some q → (∀ t, q = Sum.inl t → t = (rv, μr)) → (∀ o, q = Sum.inr o → Z p l e (zrm 3 0 0) s m args below meth c g (MQ below (zQ g zNN zσ1 (some (.int rv)) μr) args s 0 0 (zA g)) 5 zNN 0 0 zσ1 ((fun o => o) o) 69 ((fun o => [(1, .ref (zb g + a1))]) o) []) → Z p l e (zrm 3 0 0) s m args below meth c g (MQ below (zQ g zNN zσ1 (some (.int rv)) μr) args s 0 0 (zA g)) 5 zNN 0 0 zσ1 μ5 9 [(1, .ref (zb g + a1)), (2, .ref (zb g + a2)), (3, .int v3), (4, .int y4)] [] := by
  intro n
  induction n with
  | zero =>
    intro y4 μ5 q h kr kx
    rw [f_X9_follow_L9] at h
    cases h
  | succ n ih =>
    intro y4 μ5 q h kr kx
    rw [f_X9_follow_L9] at h
    refine z_iload C0 dX9_follow_9 3 rfl ?_
    refine z_aload_n C0 dX9_follow_11 rfl 0 rfl ?_
    refine z_geti C0 hU2.1 hU2.2.2.1 kf_9_42 zr_6_2 dX9_follow_12 ?_
    refine z_icmp_ge C0 69 dX9_follow_15 (by decide) (fun c6 => ?_) (fun c6 => ?_)
    · have h := zif_t c6 h
      refine z_sub (lo1 := [(1, .ref (zb g + a1))]) [0] rfl ?_
      exact kx μ5 (Option.some.inj h).symm
    · have h := zif_f c6 h
      refine z_aload_n C0 dX9_follow_18 rfl 1 rfl ?_
      refine z_iload_n C0 dX9_follow_19 rfl 2 rfl ?_
      refine z_iconst (v := (3 : Int32)) C0 dX9_follow_20 (by decide) ?_
      refine z_irem C0 dX9_follow_21 (by decide) ?_
      refine z_iconst (v := (1 : Int32)) C0 dX9_follow_22 (by decide) ?_
      refine z_isub C0 dX9_follow_23 ?_
      refine z_iload_n C0 dX9_follow_24 rfl 2 rfl ?_
      refine z_iconst (v := (3 : Int32)) C0 dX9_follow_25 (by decide) ?_
      refine z_idiv C0 dX9_follow_26 (by decide) ?_
      refine z_iconst (v := (1 : Int32)) C0 dX9_follow_27 (by decide) ?_
      refine z_isub C0 dX9_follow_28 ?_
      obtain ⟨μ7, e_μ7, h⟩ := zbd_of h
      refine z_callV (As := [.int ((v3 % (3 : Int32)) - (1 : Int32)), .int ((v3 / (3 : Int32)) - (1 : Int32))]) (rest := []) C0 rfl kc_X4_move km_RX9_85 (r_X4_move (l := l) (g := g) a2 ((v3 % (3 : Int32)) - (1 : Int32)) ((v3 / (3 : Int32)) - (1 : Int32)) μ5 hU3 e_μ7) hU3.1 hU3.2.2.1 rfl (by decide) rfl (Nat.le_of_ble_eq_true rfl) (Nat.le_of_ble_eq_true rfl) (Nat.le_of_ble_eq_true rfl) (Nat.le_of_ble_eq_true rfl) (Nat.le_refl _) rfl rfl dX9_follow_29 ?_
      refine z_aload_n C0 dX9_follow_32 rfl 1 rfl ?_
      refine z_geti C0 hU3.1 hU3.2.2.1 kf_9_89 zr_4_2 dX9_follow_33 ?_
      refine z_aload_n C0 dX9_follow_36 rfl 0 rfl ?_
      refine z_iload C0 dX9_follow_37 3 rfl ?_
      refine z_iconst (v := (0 : Int32)) C0 dX9_follow_39 (by decide) ?_
      obtain ⟨r8, e_r8, h⟩ := zbd_of h
      refine z_callV (As := [.int y4, .int (0 : Int32)]) (rest := [.int (μ7 a2 2)]) C0 rfl kc_X6_number km_RX9_92 (r_X6_number (l := l) (g := g) a1 y4 (0 : Int32) μ7 hU2 e_r8) hU2.1 hU2.2.2.1 rfl (by decide) rfl (Nat.le_of_ble_eq_true rfl) (Nat.le_of_ble_eq_true rfl) (Nat.le_of_ble_eq_true rfl) (Nat.le_of_ble_eq_true rfl) (Nat.le_refl _) rfl rfl dX9_follow_40 ?_
      obtain ⟨b13, e_b13, h⟩ := zbd_of h
      refine z_joinb b13 μ7 63 60 [(1, .ref (zb g + a1)), (2, .ref (zb g + a2)), (3, .int v3), (4, .int y4)] [] (fun z19 => ?_) (fun z19 => ?_) (fun k17 k18 => ?_)
      · have h := zif_t z19 h
        obtain ⟨x14, e_x14, h⟩ := zl_of h
        refine z_iinc (lo1 := [(4, .int x14), (1, .ref (zb g + a1)), (2, .ref (zb g + a2)), (3, .int v3)]) C0 dX9_follow_63 3 rfl (by decide) e_x14.symm (by decide) rfl ?_
        refine z_goto C0 9 dX9_follow_66 (by decide) ?_
        refine z_sub (lo1 := [(1, .ref (zb g + a1)), (2, .ref (zb g + a2)), (3, .int v3), (4, .int x14)]) [1, 2, 3, 0] rfl ?_
        exact ih _ _ _ h kr kx
      · have h := zif_f (fun q => Bool.noConfusion (z19.symm.trans q)) h
        refine z_iload C0 dX9_follow_60 3 rfl ?_
        have h := kr _ (Option.some.inj h).symm
        obtain ⟨rfl, rfl⟩ := Prod.mk.inj h
        exact z_iret C0 rfl dX9_follow_62
      · have h := e_b13
        refine z_icmp_ne C0 60 dX9_follow_43 (by decide) (fun c9 => ?_) (fun c9 => ?_)
        · have h := zif_t c9 h
          exact k18 (Option.some.inj h).symm
        · have h := zif_f (fun q => q c9) h
          refine z_aload_n C0 dX9_follow_46 rfl 1 rfl ?_
          refine z_geti C0 hU3.1 hU3.2.2.1 kf_9_95 zr_4_3 dX9_follow_47 ?_
          refine z_aload_n C0 dX9_follow_50 rfl 0 rfl ?_
          refine z_iload C0 dX9_follow_51 3 rfl ?_
          refine z_iconst (v := (1 : Int32)) C0 dX9_follow_53 (by decide) ?_
          obtain ⟨r11, e_r11, h⟩ := zbd_of h
          refine z_callV (As := [.int y4, .int (1 : Int32)]) (rest := [.int (μ7 a2 3)]) C0 rfl kc_X6_number km_RX9_92 (r_X6_number (l := l) (g := g) a1 y4 (1 : Int32) μ7 hU2 e_r11) hU2.1 hU2.2.2.1 rfl (by decide) rfl (Nat.le_of_ble_eq_true rfl) (Nat.le_of_ble_eq_true rfl) (Nat.le_of_ble_eq_true rfl) (Nat.le_of_ble_eq_true rfl) (Nat.le_refl _) rfl rfl dX9_follow_54 ?_
          refine z_icmp_eq C0 63 dX9_follow_57 (by decide) (fun c12 => ?_) (fun c12 => ?_)
          · have h := zif_t c12 h
            exact k17 (Option.some.inj h).symm
          · have h := zif_f c12 h
            exact k18 (Option.some.inj h).symm
set_option maxHeartbeats 4000000 in
set_option maxRecDepth 100000 in
theorem r_X9_follow {l : Launch} {g : zL} (a0 : Nat) (a1 : Nat) (a2 : Nat) (v3 : Int32) (μ : zM) (hT0 : zT zNN zσ1 a0 1) (hT1 : zT zNN zσ1 a1 6) (hT2 : zT zNN zσ1 a2 4) {rv : Int32} {μr : zM} (h : f_X9_follow a0 a1 a2 v3 μ = some (rv, μr)) : zMet l g yX9_follow cX9_follow 5 (some (.int)) 3 0 0 zNN zNN zσ1 zσ1 [.ref (zb g + a0), .ref (zb g + a1), .ref (zb g + a2), .int v3] μ (some (.int rv)) μr := by
  refine zMet.of (by decide +kernel) (Nat.le_of_ble_eq_true rfl) ?_
  intro p e s m args below meth c C0
  refine z_loc (lo1 := [(0, .ref (zb g + a0)), (1, .ref (zb g + a1)), (2, .ref (zb g + a2)), (3, .int v3)]) rfl ?_
  unfold f_X9_follow at h
  refine z_aload_n C0 dX9_follow_0 rfl 2 rfl ?_
  refine z_aload_n C0 dX9_follow_1 rfl 0 rfl ?_
  refine z_aload_n C0 dX9_follow_2 rfl 0 rfl ?_
  obtain ⟨μ1, e_μ1, h⟩ := zbd_of h
  refine z_callV (As := [.ref (zb g + a0), .ref (zb g + a0)]) (rest := []) C0 rfl kc_X4_launch km_RX9_79 (r_X4_launch (l := l) (g := g) a2 a0 a0 μ hT2 hT0 hT0 e_μ1) hT2.1 hT2.2.2.1 rfl (by decide) rfl (Nat.le_of_ble_eq_true rfl) (Nat.le_of_ble_eq_true rfl) (Nat.le_of_ble_eq_true rfl) (Nat.le_of_ble_eq_true rfl) (Nat.le_refl _) rfl rfl dX9_follow_3 ?_
  refine z_iconst (v := (0 : Int32)) C0 dX9_follow_6 (by decide) ?_
  refine z_istore (lo1 := [(4, .int (0 : Int32)), (0, .ref (zb g + a0)), (1, .ref (zb g + a1)), (2, .ref (zb g + a2)), (3, .int v3)]) C0 dX9_follow_7 (by decide) rfl ?_
  refine z_sub (lo1 := [(1, .ref (zb g + a1)), (2, .ref (zb g + a2)), (3, .int v3), (4, .int (0 : Int32))]) [2, 3, 4, 0] rfl ?_
  obtain ⟨q16, e_q16, h⟩ := zbd_of h
  refine r_X9_follow_L9 C0 a1 a2 v3 hT1 hT2 zFU (0 : Int32) μ1 q16 e_q16 ?_ ?_
  · intro t ht
    have h := zsum_l h _ ht
    exact Option.some.inj h
  · intro μ15 hq
    have h := zsum_r h _ hq
    refine z_aload_n C0 dX9_follow_69 rfl 0 rfl ?_
    refine z_geti C0 hT1.1 hT1.2.2.1 kf_9_42 zr_6_2 dX9_follow_70 ?_
    have h := Option.some.inj h
    obtain ⟨rfl, rfl⟩ := Prod.mk.inj h
    exact z_iret C0 rfl dX9_follow_73
def f_X9_keepWay_L52 (a0 : Nat) (v2 : Int32) : Nat → Int32 → zM → Option (zM)
  | 0, _, _ => none
  | n + 1, y9, μ10 =>
    if (¬ (v2 ≤ y9)) ∧ (¬ ((5 : Int32) ≤ y9)) then
      zg (zin y9 5) <|
      zg (zin ((y9 * (5 : Int32)) + (μ10 (a0 + 4) (y9.toNatClampNeg))) 25) <|
      zl (zup μ10 (a0 + 3) (((y9 * (5 : Int32)) + (μ10 (a0 + 4) (y9.toNatClampNeg))).toNatClampNeg) ((μ10 (a0 + 3) (((y9 * (5 : Int32)) + (μ10 (a0 + 4) (y9.toNatClampNeg))).toNatClampNeg)) + (1 : Int32))) fun μ15 =>
      zl (y9 + (1 : Int32)) fun x16 =>
      f_X9_keepWay_L52 a0 v2 n x16 μ15
    else
      some μ10
def f_X9_keepWay (a0 : Nat) (v1 : Int32) (v2 : Int32) (μ : zM) : Option (zM) :=
  zl (f_J6_bitCount_0f7a4 v1) fun x1 =>
  zl (zup μ a0 0 ((μ a0 0) + (1 : Int32))) fun μ2 =>
  zl (zup μ2 a0 1 ((μ2 a0 1) &&& v1)) fun μ3 =>
  zl (if ¬ (μ3 a0 2) = (-1 : Int32) then
      (zmin (μ3 a0 2) x1)
    else
      x1) fun x6 =>
  zl (zup μ3 a0 2 x6) fun μ7 =>
  zbd (f_X9_keepWay_L52 a0 v2 zFU (0 : Int32) μ7) fun μ17 =>
  some μ17
set_option maxHeartbeats 4000000 in
set_option maxRecDepth 100000 in
theorem r_X9_keepWay_L52 {l : Launch} {g : zL} {p : Program} {e : Env} {s : State} {m : MethodId} {args : Array Value} {below : List Frame} {meth : Method} {c : Code} {Q : State → Prop} (C0 : zC p s m args meth c g cX9_keepWay yX9_keepWay 5 none) (a0 : Nat) (v2 : Int32) (hU8 : zT zNN zσ1 a0 9) : ∀ (n : Nat) (y9 : Int32) (μ10 : zM) (μ17 : zM), f_X9_keepWay_L52 a0 v2 n y9 μ10 = some μ17 → Z p l e (zrm 1 0 0) s m args below meth c g Q 5 zNN 0 0 zσ1 μ17 91 [] [] → Z p l e (zrm 1 0 0) s m args below meth c g Q 5 zNN 0 0 zσ1 μ10 52 [(0, .ref (zb g + a0)), (2, .int v2), (4, .int y9)] [] := by
  intro n
  induction n with
  | zero =>
    intro y9 μ10 μ17 h kx
    rw [f_X9_keepWay_L52] at h
    cases h
  | succ n ih =>
    intro y9 μ10 μ17 h kx
    rw [f_X9_keepWay_L52] at h
    refine z_iload C0 dX9_keepWay_52 2 rfl ?_
    refine z_iload_n C0 dX9_keepWay_54 rfl 1 rfl ?_
    by_cases hc18 : (¬ (v2 ≤ y9)) ∧ (¬ ((5 : Int32) ≤ y9))
    · have h := zif_t hc18 h
      refine z_join μ10 64 [(0, .ref (zb g + a0)), (2, .int v2), (4, .int y9)] [] ?_ (fun k19 => ?_)
      · refine z_aload_n C0 dX9_keepWay_64 rfl 0 rfl ?_
        refine z_getr C0 hU8 kf_9_18 zr_9_7 zx_9 (zs_9_7 hU8).1 dX9_keepWay_65 ?_
        refine z_iload C0 dX9_keepWay_68 2 rfl ?_
        refine z_iconst (v := (5 : Int32)) C0 dX9_keepWay_70 (by decide) ?_
        refine z_imul C0 dX9_keepWay_71 ?_
        refine z_aload_n C0 dX9_keepWay_72 rfl 0 rfl ?_
        refine z_getr C0 hU8 kf_9_21 zr_9_8 zx_9 (zs_9_8 hU8).1 dX9_keepWay_73 ?_
        refine z_iload C0 dX9_keepWay_76 2 rfl ?_
        obtain ⟨g13, h⟩ := zg_of h
        refine z_iald C0 (zs_9_8 hU8).2 g13 rfl dX9_keepWay_78 ?_
        refine z_iadd C0 dX9_keepWay_79 ?_
        refine z_dup2 C0 dX9_keepWay_80 rfl rfl ?_
        obtain ⟨g14, h⟩ := zg_of h
        refine z_iald C0 (zs_9_7 hU8).2 g14 rfl dX9_keepWay_81 ?_
        refine z_iconst (v := (1 : Int32)) C0 dX9_keepWay_82 (by decide) ?_
        refine z_iadd C0 dX9_keepWay_83 ?_
        obtain ⟨μ15, e_μ15, h⟩ := zl_of h
        refine z_iast C0 (zs_9_7 hU8).2 g14 rfl e_μ15 dX9_keepWay_84 ?_
        obtain ⟨x16, e_x16, h⟩ := zl_of h
        refine z_iinc (lo1 := [(4, .int x16), (0, .ref (zb g + a0)), (2, .int v2)]) C0 dX9_keepWay_85 2 rfl (by decide) e_x16.symm (by decide) rfl ?_
        refine z_goto C0 52 dX9_keepWay_88 (by decide) ?_
        refine z_sub (lo1 := [(0, .ref (zb g + a0)), (2, .int v2), (4, .int x16)]) [1, 2, 0] rfl ?_
        exact ih _ _ _ h kx
      · refine z_icmp_ge C0 91 dX9_keepWay_55 (by decide) (fun c11 => ?_) (fun c11 => ?_)
        · exact absurd hc18 (fun q => q.1 c11)
        · refine z_iload C0 dX9_keepWay_58 2 rfl ?_
          refine z_iconst (v := (5 : Int32)) C0 dX9_keepWay_60 (by decide) ?_
          refine z_icmp_ge C0 91 dX9_keepWay_61 (by decide) (fun c12 => ?_) (fun c12 => ?_)
          · exact absurd hc18 (fun q => (fun q => q c12) q.2)
          · exact k19
    · have h := zif_f hc18 h
      refine z_join μ10 91 [(0, .ref (zb g + a0)), (2, .int v2), (4, .int y9)] [] ?_ (fun k20 => ?_)
      · refine z_sub (lo1 := []) [] rfl ?_
        obtain rfl := (Option.some.inj h)
        exact kx
      · refine z_icmp_ge C0 91 dX9_keepWay_55 (by decide) (fun c11 => ?_) (fun c11 => ?_)
        · exact k20
        · refine z_iload C0 dX9_keepWay_58 2 rfl ?_
          refine z_iconst (v := (5 : Int32)) C0 dX9_keepWay_60 (by decide) ?_
          refine z_icmp_ge C0 91 dX9_keepWay_61 (by decide) (fun c12 => ?_) (fun c12 => ?_)
          · exact k20
          · exact absurd ⟨c11, c12⟩ hc18
set_option maxHeartbeats 4000000 in
set_option maxRecDepth 100000 in
theorem r_X9_keepWay {l : Launch} {g : zL} (a0 : Nat) (v1 : Int32) (v2 : Int32) (μ : zM) (hT0 : zT zNN zσ1 a0 9) {μr : zM} (h : f_X9_keepWay a0 v1 v2 μ = some μr) : zMet l g yX9_keepWay cX9_keepWay 5 none 1 0 0 zNN zNN zσ1 zσ1 [.ref (zb g + a0), .int v1, .int v2] μ none μr := by
  refine zMet.of (by decide +kernel) (Nat.le_of_ble_eq_true rfl) ?_
  intro p e s m args below meth c C0
  refine z_loc (lo1 := [(0, .ref (zb g + a0)), (1, .int v1), (2, .int v2)]) rfl ?_
  unfold f_X9_keepWay at h
  refine z_iload_n C0 dX9_keepWay_0 rfl 1 rfl ?_
  refine z_callS (As := [.int v1]) (rest := []) C0 rfl kc_J6_bitCount_0f7a4 km_RX9_115 (r_J6_bitCount_0f7a4 (l := l) (g := g) (μ := μ) v1 rfl) rfl (Nat.le_of_ble_eq_true rfl) (Nat.le_of_ble_eq_true rfl) (Nat.le_of_ble_eq_true rfl) (Nat.le_of_ble_eq_true rfl) (Nat.le_refl _) rfl rfl dX9_keepWay_1 ?_
  obtain ⟨x1, e_x1, h⟩ := zl_of h
  refine z_nm e_x1 ?_
  refine z_istore_n (lo1 := [(3, .int x1), (0, .ref (zb g + a0)), (1, .int v1), (2, .int v2)]) C0 dX9_keepWay_4 rfl (by decide) rfl ?_
  refine z_aload_n C0 dX9_keepWay_5 rfl 1 rfl ?_
  refine z_dup C0 dX9_keepWay_6 rfl ?_
  refine z_geti C0 hT0.1 hT0.2.2.1 kf_9_32 zr_9_0 dX9_keepWay_7 ?_
  refine z_iconst (v := (1 : Int32)) C0 dX9_keepWay_10 (by decide) ?_
  refine z_iadd C0 dX9_keepWay_11 ?_
  obtain ⟨μ2, e_μ2, h⟩ := zl_of h
  refine z_puti C0 hT0.1 hT0.2.2.1 kf_9_32 zp_9_0 zr_9_0 e_μ2 dX9_keepWay_12 ?_
  refine z_aload_n C0 dX9_keepWay_15 rfl 1 rfl ?_
  refine z_dup C0 dX9_keepWay_16 rfl ?_
  refine z_geti C0 hT0.1 hT0.2.2.1 kf_9_47 zr_9_1 dX9_keepWay_17 ?_
  refine z_iload_n C0 dX9_keepWay_20 rfl 2 rfl ?_
  refine z_iand C0 dX9_keepWay_21 ?_
  obtain ⟨μ3, e_μ3, h⟩ := zl_of h
  refine z_puti C0 hT0.1 hT0.2.2.1 kf_9_47 zp_9_1 zr_9_1 e_μ3 dX9_keepWay_22 ?_
  refine z_aload_n C0 dX9_keepWay_25 rfl 1 rfl ?_
  refine z_aload_n C0 dX9_keepWay_26 rfl 1 rfl ?_
  refine z_geti C0 hT0.1 hT0.2.2.1 kf_9_50 zr_9_2 dX9_keepWay_27 ?_
  refine z_iconst (v := (-1 : Int32)) C0 dX9_keepWay_30 (by decide) ?_
  obtain ⟨x6, e_x6, h⟩ := zl_of h
  refine z_join μ3 46 [(0, .ref (zb g + a0)), (2, .int v2)] [.int x6, .ref (zb g + a0)] ?_ (fun k_J5 => ?_)
  · obtain ⟨μ7, e_μ7, h⟩ := zl_of h
    refine z_puti C0 hT0.1 hT0.2.2.1 kf_9_50 zp_9_2 zr_9_2 e_μ7 dX9_keepWay_46 ?_
    refine z_iconst (v := (0 : Int32)) C0 dX9_keepWay_49 (by decide) ?_
    refine z_istore (lo1 := [(4, .int (0 : Int32)), (0, .ref (zb g + a0)), (2, .int v2)]) C0 dX9_keepWay_50 (by decide) rfl ?_
    refine z_sub (lo1 := [(0, .ref (zb g + a0)), (2, .int v2), (4, .int (0 : Int32))]) [1, 2, 0] rfl ?_
    obtain ⟨μ17, e_μ17, h⟩ := zbd_of h
    refine r_X9_keepWay_L52 C0 a0 v2 hT0 zFU (0 : Int32) μ7 μ17 e_μ17 ?_
    have h := Option.some.inj h
    obtain rfl := h
    exact z_vret C0 rfl dX9_keepWay_91
  · have h := e_x6.symm
    refine z_icmp_ne C0 38 dX9_keepWay_31 (by decide) (fun c4 => ?_) (fun c4 => ?_)
    · have h := zif_t c4 h
      refine z_aload_n C0 dX9_keepWay_38 rfl 1 rfl ?_
      refine z_geti C0 hT0.1 hT0.2.2.1 kf_9_50 zr_9_2 dX9_keepWay_39 ?_
      refine z_iload_n C0 dX9_keepWay_42 rfl 0 rfl ?_
      refine z_mmin C0 rfl kM_RX9_120 kM_min (Nat.le_of_ble_eq_true rfl) (Nat.zero_le _) (Nat.zero_le _) dX9_keepWay_43 ?_
      refine z_sub (lo1 := [(0, .ref (zb g + a0)), (2, .int v2)]) [1, 3] rfl ?_
      obtain rfl := h
      exact k_J5
    · have h := zif_f (fun q => q c4) h
      refine z_iload_n C0 dX9_keepWay_34 rfl 0 rfl ?_
      refine z_goto C0 46 dX9_keepWay_35 (by decide) ?_
      refine z_sub (lo1 := [(0, .ref (zb g + a0)), (2, .int v2)]) [1, 3] rfl ?_
      obtain rfl := h
      exact k_J5
def f_X9_tryWay_L23 (a0 : Nat) (a1 : Nat) (v3 : Int32) : Nat → Int32 → Int32 → Int32 → Int32 → Int32 → zM → Option (Int32 × Int32 × Int32 × zM)
  | 0, _, _, _, _, _, _ => none
  | n + 1, y5, y6, y7, y8, y9, μ10 =>
    if (¬ ((μ10 (a1 + 8) 2) ≤ y9)) ∧ (¬ ((5 : Int32) ≤ y9)) then
      zg (znz ((μ10 a0 5) + (1 : Int32))) <|
      zg (zin y9 5) <|
      zl (zup μ10 (a0 + 4) (y9.toNatClampNeg) (y5 % ((μ10 a0 5) + (1 : Int32)))) fun μ15 =>
      zg (znz ((μ15 a0 5) + (1 : Int32))) <|
      zl (y5 / ((μ15 a0 5) + (1 : Int32))) fun x17 =>
      zbd3 (if (¬ ((μ15 (a0 + 4) (y9.toNatClampNeg)) ≤ 0)) ∧ (¬ ((4 : Int32) < (μ15 (a0 + 4) (y9.toNatClampNeg)))) then
          zg (zin ((μ15 (a0 + 4) (y9.toNatClampNeg)) - (1 : Int32)) 4) <|
          zl (μ15 (a0 + 1) (((μ15 (a0 + 4) (y9.toNatClampNeg)) - (1 : Int32)).toNatClampNeg)) fun x22 =>
          zl (y6 ||| ((1 : Int32) <<< (y9 &&& 31))) fun x23 =>
          zbd (f_X6_number (a1 + 8) y9 (0 : Int32) μ15) fun r24 =>
          zbd (f_X1_arm a1 x22 (0 : Int32) μ15) fun r25 =>
          zl (y7 + (r24 * r25)) fun x26 =>
          zbd (f_X6_number (a1 + 8) y9 (0 : Int32) μ15) fun r27 =>
          zbd (f_X1_arm a1 x22 (1 : Int32) μ15) fun r28 =>
          zl (y8 + (r27 * r28)) fun x29 =>
          some (x23, x26, x29)
        else
          some (y6, y7, y8)) fun x30 x31 x32 =>
      zl (y9 + (1 : Int32)) fun x33 =>
      f_X9_tryWay_L23 a0 a1 v3 n x17 x30 x31 x32 x33 μ15
    else
      some (y6, y7, y8, μ10)
def f_X9_tryWay (a0 : Nat) (a1 : Nat) (v2 : Int32) (v3 : Int32) (μ : zM) : Option (zM) :=
  zl (f_X1_graveList a1 (0 : Int32) μ) fun x1 =>
  zl (f_X1_graveList a1 (1 : Int32) μ) fun x2 =>
  zbd4 (f_X9_tryWay_L23 a0 a1 v3 zFU v2 (0 : Int32) x1 x2 (0 : Int32) μ) fun x34 x35 x36 μ37 =>
  zg (zin (((((f_X1_lean a1 x36 μ37) + (1 : Int32)) * (3 : Int32)) + (f_X1_lean a1 x35 μ37)) + (1 : Int32)) 9) <|
  zl (μ37 (a0 + 2) ((((((f_X1_lean a1 x36 μ37) + (1 : Int32)) * (3 : Int32)) + (f_X1_lean a1 x35 μ37)) + (1 : Int32)).toNatClampNeg)) fun x39 =>
  zl (zup μ37 a0 3 (zmax (μ37 a0 3) x39)) fun μ40 =>
  zbd (if ¬ x39 = v3 then
      some μ40
    else
      zbd (f_X9_keepWay a0 x34 (μ40 (a1 + 8) 2) μ40) fun μ43 =>
      some μ43) fun μ44 =>
  some μ44
set_option maxHeartbeats 4000000 in
set_option maxRecDepth 100000 in
theorem r_X9_tryWay_L23 {l : Launch} {g : zL} {p : Program} {e : Env} {s : State} {m : MethodId} {args : Array Value} {below : List Frame} {meth : Method} {c : Code} {Q : State → Prop} (C0 : zC p s m args meth c g cX9_tryWay yX9_tryWay 10 none) (a0 : Nat) (a1 : Nat) (v3 : Int32) (hU3 : zT zNN zσ1 a0 9) (hU4 : zT zNN zσ1 a1 1) : ∀ (n : Nat) (y5 : Int32) (y6 : Int32) (y7 : Int32) (y8 : Int32) (y9 : Int32) (μ10 : zM) (x34 : Int32) (x35 : Int32) (x36 : Int32) (μ37 : zM), f_X9_tryWay_L23 a0 a1 v3 n y5 y6 y7 y8 y9 μ10 = some (x34, x35, x36, μ37) → Z p l e (zrm 2 0 0) s m args below meth c g Q 10 zNN 0 0 zσ1 μ37 166 [(0, .ref (zb g + a0)), (1, .ref (zb g + a1)), (3, .int v3), (5, .int x34), (6, .int x35), (7, .int x36)] [] → Z p l e (zrm 2 0 0) s m args below meth c g Q 10 zNN 0 0 zσ1 μ10 23 [(0, .ref (zb g + a0)), (1, .ref (zb g + a1)), (3, .int v3), (4, .int y5), (5, .int y6), (6, .int y7), (7, .int y8), (8, .int y9)] [] := by
  intro n
  induction n with
  | zero =>
    intro y5 y6 y7 y8 y9 μ10 x34 x35 x36 μ37 h kx
    rw [f_X9_tryWay_L23] at h
    cases h
  | succ n ih =>
    intro y5 y6 y7 y8 y9 μ10 x34 x35 x36 μ37 h kx
    rw [f_X9_tryWay_L23] at h
    refine z_iload C0 dX9_tryWay_23 7 rfl ?_
    refine z_aload_n C0 dX9_tryWay_25 rfl 1 rfl ?_
    refine z_getr C0 hU4 kf_9_36 zr_1_4 zx_1 (zs_1_4 hU4).1 dX9_tryWay_26 ?_
    refine z_geti C0 (zs_1_4 hU4).2.1 (zs_1_4 hU4).2.2.2.1 kf_9_42 zr_6_2 dX9_tryWay_29 ?_
    by_cases hc45 : (¬ ((μ10 (a1 + 8) 2) ≤ y9)) ∧ (¬ ((5 : Int32) ≤ y9))
    · have h := zif_t hc45 h
      refine z_join μ10 41 [(0, .ref (zb g + a0)), (1, .ref (zb g + a1)), (3, .int v3), (4, .int y5), (5, .int y6), (6, .int y7), (7, .int y8), (8, .int y9)] [] ?_ (fun k46 => ?_)
      · refine z_aload_n C0 dX9_tryWay_41 rfl 0 rfl ?_
        refine z_getr C0 hU3 kf_9_21 zr_9_8 zx_9 (zs_9_8 hU3).1 dX9_tryWay_42 ?_
        refine z_iload C0 dX9_tryWay_45 7 rfl ?_
        refine z_iload C0 dX9_tryWay_47 3 rfl ?_
        refine z_aload_n C0 dX9_tryWay_49 rfl 0 rfl ?_
        refine z_geti C0 hU3.1 hU3.2.2.1 kf_9_56 zr_9_5 dX9_tryWay_50 ?_
        refine z_iconst (v := (1 : Int32)) C0 dX9_tryWay_53 (by decide) ?_
        refine z_iadd C0 dX9_tryWay_54 ?_
        obtain ⟨g13, h⟩ := zg_of h
        refine z_irem C0 dX9_tryWay_55 g13 ?_
        obtain ⟨g14, h⟩ := zg_of h
        obtain ⟨μ15, e_μ15, h⟩ := zl_of h
        refine z_iast C0 (zs_9_8 hU3).2 g14 rfl e_μ15 dX9_tryWay_56 ?_
        refine z_iload C0 dX9_tryWay_57 3 rfl ?_
        refine z_aload_n C0 dX9_tryWay_59 rfl 0 rfl ?_
        refine z_geti C0 hU3.1 hU3.2.2.1 kf_9_56 zr_9_5 dX9_tryWay_60 ?_
        refine z_iconst (v := (1 : Int32)) C0 dX9_tryWay_63 (by decide) ?_
        refine z_iadd C0 dX9_tryWay_64 ?_
        obtain ⟨g16, h⟩ := zg_of h
        refine z_idiv C0 dX9_tryWay_65 g16 ?_
        obtain ⟨x17, e_x17, h⟩ := zl_of h
        refine z_nm e_x17 ?_
        refine z_istore (lo1 := [(4, .int x17), (0, .ref (zb g + a0)), (1, .ref (zb g + a1)), (3, .int v3), (5, .int y6), (6, .int y7), (7, .int y8), (8, .int y9)]) C0 dX9_tryWay_66 (by decide) rfl ?_
        refine z_aload_n C0 dX9_tryWay_68 rfl 1 rfl ?_
        refine z_getr C0 hU3 kf_9_21 zr_9_8 zx_9 (zs_9_8 hU3).1 dX9_tryWay_69 ?_
        refine z_iload C0 dX9_tryWay_72 7 rfl ?_
        refine z_iald C0 (zs_9_8 hU3).2 g14 rfl dX9_tryWay_74 ?_
        obtain ⟨x30, x31, x32, e_x30, h⟩ := zbd3_of h
        refine z_join μ15 160 [(0, .ref (zb g + a0)), (1, .ref (zb g + a1)), (3, .int v3), (4, .int x17), (5, .int x30), (6, .int x31), (7, .int x32), (8, .int y9)] [] ?_ (fun k_J20 => ?_)
        · obtain ⟨x33, e_x33, h⟩ := zl_of h
          refine z_iinc (lo1 := [(8, .int x33), (0, .ref (zb g + a0)), (1, .ref (zb g + a1)), (3, .int v3), (4, .int x17), (5, .int x30), (6, .int x31), (7, .int x32)]) C0 dX9_tryWay_160 7 rfl (by decide) e_x33.symm (by decide) rfl ?_
          refine z_goto C0 23 dX9_tryWay_163 (by decide) ?_
          refine z_sub (lo1 := [(0, .ref (zb g + a0)), (1, .ref (zb g + a1)), (3, .int v3), (4, .int x17), (5, .int x30), (6, .int x31), (7, .int x32), (8, .int x33)]) [1, 2, 3, 4, 5, 6, 7, 0] rfl ?_
          exact ih _ _ _ _ _ _ _ _ _ _ h kx
        · have h := e_x30
          by_cases hc47 : (¬ ((μ15 (a0 + 4) (y9.toNatClampNeg)) ≤ 0)) ∧ (¬ ((4 : Int32) < (μ15 (a0 + 4) (y9.toNatClampNeg))))
          · have h := zif_t hc47 h
            refine z_join μ15 89 [(4, .int x17), (0, .ref (zb g + a0)), (1, .ref (zb g + a1)), (3, .int v3), (5, .int y6), (6, .int y7), (7, .int y8), (8, .int y9)] [] ?_ (fun k48 => ?_)
            · refine z_aload_n C0 dX9_tryWay_89 rfl 1 rfl ?_
              refine z_getr C0 hU3 kf_9_11 zr_9_4 zx_9 (zs_9_4 hU3).1 dX9_tryWay_90 ?_
              refine z_aload_n C0 dX9_tryWay_93 rfl 1 rfl ?_
              refine z_getr C0 hU3 kf_9_21 zr_9_8 zx_9 (zs_9_8 hU3).1 dX9_tryWay_94 ?_
              refine z_iload C0 dX9_tryWay_97 7 rfl ?_
              refine z_iald C0 (zs_9_8 hU3).2 g14 rfl dX9_tryWay_99 ?_
              refine z_iconst (v := (1 : Int32)) C0 dX9_tryWay_100 (by decide) ?_
              refine z_isub C0 dX9_tryWay_101 ?_
              obtain ⟨g21, h⟩ := zg_of h
              refine z_iald C0 (zs_9_4 hU3).2 g21 rfl dX9_tryWay_102 ?_
              obtain ⟨x22, e_x22, h⟩ := zl_of h
              refine z_nm e_x22 ?_
              refine z_istore (lo1 := [(9, .int x22), (4, .int x17), (0, .ref (zb g + a0)), (1, .ref (zb g + a1)), (3, .int v3), (5, .int y6), (6, .int y7), (7, .int y8), (8, .int y9)]) C0 dX9_tryWay_103 (by decide) rfl ?_
              refine z_iload C0 dX9_tryWay_105 5 rfl ?_
              refine z_iconst (v := (1 : Int32)) C0 dX9_tryWay_107 (by decide) ?_
              refine z_iload C0 dX9_tryWay_108 8 rfl ?_
              refine z_ishl C0 dX9_tryWay_110 ?_
              refine z_ior C0 dX9_tryWay_111 ?_
              obtain ⟨x23, e_x23, h⟩ := zl_of h
              refine z_nm e_x23 ?_
              refine z_istore (lo1 := [(5, .int x23), (9, .int x22), (4, .int x17), (0, .ref (zb g + a0)), (1, .ref (zb g + a1)), (3, .int v3), (6, .int y7), (7, .int y8), (8, .int y9)]) C0 dX9_tryWay_112 (by decide) rfl ?_
              refine z_iload C0 dX9_tryWay_114 6 rfl ?_
              refine z_aload_n C0 dX9_tryWay_116 rfl 4 rfl ?_
              refine z_getr C0 hU4 kf_9_36 zr_1_4 zx_1 (zs_1_4 hU4).1 dX9_tryWay_117 ?_
              refine z_iload C0 dX9_tryWay_120 8 rfl ?_
              refine z_iconst (v := (0 : Int32)) C0 dX9_tryWay_122 (by decide) ?_
              obtain ⟨r24, e_r24, h⟩ := zbd_of h
              refine z_callV (As := [.int y9, .int (0 : Int32)]) (rest := [.int y7]) C0 rfl kc_X6_number km_RX9_92 (r_X6_number (l := l) (g := g) (a1 + 8) y9 (0 : Int32) μ15 (zs_1_4 hU4).2 e_r24) (zs_1_4 hU4).2.1 (zs_1_4 hU4).2.2.2.1 rfl (by decide) rfl (Nat.le_of_ble_eq_true rfl) (Nat.le_of_ble_eq_true rfl) (Nat.le_of_ble_eq_true rfl) (Nat.le_of_ble_eq_true rfl) (Nat.le_refl _) rfl rfl dX9_tryWay_123 ?_
              refine z_aload_n C0 dX9_tryWay_126 rfl 4 rfl ?_
              refine z_iload C0 dX9_tryWay_127 1 rfl ?_
              refine z_iconst (v := (0 : Int32)) C0 dX9_tryWay_129 (by decide) ?_
              obtain ⟨r25, e_r25, h⟩ := zbd_of h
              refine z_callV (As := [.int x22, .int (0 : Int32)]) (rest := [.int r24, .int y7]) C0 rfl kc_X1_arm km_RX9_101 (r_X1_arm (l := l) (g := g) a1 x22 (0 : Int32) μ15 hU4 e_r25) hU4.1 hU4.2.2.1 rfl (by decide) rfl (Nat.le_of_ble_eq_true rfl) (Nat.le_of_ble_eq_true rfl) (Nat.le_of_ble_eq_true rfl) (Nat.le_of_ble_eq_true rfl) (Nat.le_refl _) rfl rfl dX9_tryWay_130 ?_
              refine z_imul C0 dX9_tryWay_133 ?_
              refine z_iadd C0 dX9_tryWay_134 ?_
              obtain ⟨x26, e_x26, h⟩ := zl_of h
              refine z_nm e_x26 ?_
              refine z_istore (lo1 := [(6, .int x26), (5, .int x23), (9, .int x22), (4, .int x17), (0, .ref (zb g + a0)), (1, .ref (zb g + a1)), (3, .int v3), (7, .int y8), (8, .int y9)]) C0 dX9_tryWay_135 (by decide) rfl ?_
              refine z_iload C0 dX9_tryWay_137 7 rfl ?_
              refine z_aload_n C0 dX9_tryWay_139 rfl 5 rfl ?_
              refine z_getr C0 hU4 kf_9_36 zr_1_4 zx_1 (zs_1_4 hU4).1 dX9_tryWay_140 ?_
              refine z_iload C0 dX9_tryWay_143 8 rfl ?_
              refine z_iconst (v := (0 : Int32)) C0 dX9_tryWay_145 (by decide) ?_
              obtain ⟨r27, e_r27, h⟩ := zbd_of h
              refine z_callV (As := [.int y9, .int (0 : Int32)]) (rest := [.int y8]) C0 rfl kc_X6_number km_RX9_92 (r_X6_number (l := l) (g := g) (a1 + 8) y9 (0 : Int32) μ15 (zs_1_4 hU4).2 e_r27) (zs_1_4 hU4).2.1 (zs_1_4 hU4).2.2.2.1 rfl (by decide) rfl (Nat.le_of_ble_eq_true rfl) (Nat.le_of_ble_eq_true rfl) (Nat.le_of_ble_eq_true rfl) (Nat.le_of_ble_eq_true rfl) (Nat.le_refl _) rfl rfl dX9_tryWay_146 ?_
              refine z_aload_n C0 dX9_tryWay_149 rfl 5 rfl ?_
              refine z_iload C0 dX9_tryWay_150 2 rfl ?_
              refine z_iconst (v := (1 : Int32)) C0 dX9_tryWay_152 (by decide) ?_
              obtain ⟨r28, e_r28, h⟩ := zbd_of h
              refine z_callV (As := [.int x22, .int (1 : Int32)]) (rest := [.int r27, .int y8]) C0 rfl kc_X1_arm km_RX9_101 (r_X1_arm (l := l) (g := g) a1 x22 (1 : Int32) μ15 hU4 e_r28) hU4.1 hU4.2.2.1 rfl (by decide) rfl (Nat.le_of_ble_eq_true rfl) (Nat.le_of_ble_eq_true rfl) (Nat.le_of_ble_eq_true rfl) (Nat.le_of_ble_eq_true rfl) (Nat.le_refl _) rfl rfl dX9_tryWay_153 ?_
              refine z_imul C0 dX9_tryWay_156 ?_
              refine z_iadd C0 dX9_tryWay_157 ?_
              obtain ⟨x29, e_x29, h⟩ := zl_of h
              refine z_nm e_x29 ?_
              refine z_istore (lo1 := [(7, .int x29), (6, .int x26), (5, .int x23), (9, .int x22), (4, .int x17), (0, .ref (zb g + a0)), (1, .ref (zb g + a1)), (3, .int v3), (8, .int y9)]) C0 dX9_tryWay_158 (by decide) rfl ?_
              refine z_sub (lo1 := [(0, .ref (zb g + a0)), (1, .ref (zb g + a1)), (3, .int v3), (4, .int x17), (5, .int x23), (6, .int x26), (7, .int x29), (8, .int y9)]) [5, 6, 7, 4, 2, 1, 0, 8] rfl ?_
              obtain ⟨rfl, h0_⟩ := Prod.mk.inj (Option.some.inj h)
              obtain ⟨rfl, rfl⟩ := Prod.mk.inj h0_
              exact k_J20
            · refine z_if_le C0 160 dX9_tryWay_75 (by decide) (fun c18 => ?_) (fun c18 => ?_)
              · exact absurd hc47 (fun q => q.1 c18)
              · refine z_aload_n C0 dX9_tryWay_78 rfl 1 rfl ?_
                refine z_getr C0 hU3 kf_9_21 zr_9_8 zx_9 (zs_9_8 hU3).1 dX9_tryWay_79 ?_
                refine z_iload C0 dX9_tryWay_82 7 rfl ?_
                refine z_iald C0 (zs_9_8 hU3).2 g14 rfl dX9_tryWay_84 ?_
                refine z_iconst (v := (4 : Int32)) C0 dX9_tryWay_85 (by decide) ?_
                refine z_icmp_gt C0 160 dX9_tryWay_86 (by decide) (fun c19 => ?_) (fun c19 => ?_)
                · exact absurd hc47 (fun q => (fun q => q c19) q.2)
                · exact k48
          · have h := zif_f hc47 h
            refine z_join μ15 160 [(4, .int x17), (0, .ref (zb g + a0)), (1, .ref (zb g + a1)), (3, .int v3), (5, .int y6), (6, .int y7), (7, .int y8), (8, .int y9)] [] ?_ (fun k49 => ?_)
            · refine z_sub (lo1 := [(0, .ref (zb g + a0)), (1, .ref (zb g + a1)), (3, .int v3), (4, .int x17), (5, .int y6), (6, .int y7), (7, .int y8), (8, .int y9)]) [1, 2, 3, 0, 4, 5, 6, 7] rfl ?_
              obtain ⟨rfl, h0_⟩ := Prod.mk.inj (Option.some.inj h)
              obtain ⟨rfl, rfl⟩ := Prod.mk.inj h0_
              exact k_J20
            · refine z_if_le C0 160 dX9_tryWay_75 (by decide) (fun c18 => ?_) (fun c18 => ?_)
              · exact k49
              · refine z_aload_n C0 dX9_tryWay_78 rfl 1 rfl ?_
                refine z_getr C0 hU3 kf_9_21 zr_9_8 zx_9 (zs_9_8 hU3).1 dX9_tryWay_79 ?_
                refine z_iload C0 dX9_tryWay_82 7 rfl ?_
                refine z_iald C0 (zs_9_8 hU3).2 g14 rfl dX9_tryWay_84 ?_
                refine z_iconst (v := (4 : Int32)) C0 dX9_tryWay_85 (by decide) ?_
                refine z_icmp_gt C0 160 dX9_tryWay_86 (by decide) (fun c19 => ?_) (fun c19 => ?_)
                · exact k49
                · exact absurd ⟨c18, c19⟩ hc47
      · refine z_icmp_ge C0 166 dX9_tryWay_32 (by decide) (fun c11 => ?_) (fun c11 => ?_)
        · exact absurd hc45 (fun q => q.1 c11)
        · refine z_iload C0 dX9_tryWay_35 7 rfl ?_
          refine z_iconst (v := (5 : Int32)) C0 dX9_tryWay_37 (by decide) ?_
          refine z_icmp_ge C0 166 dX9_tryWay_38 (by decide) (fun c12 => ?_) (fun c12 => ?_)
          · exact absurd hc45 (fun q => (fun q => q c12) q.2)
          · exact k46
    · have h := zif_f hc45 h
      refine z_join μ10 166 [(0, .ref (zb g + a0)), (1, .ref (zb g + a1)), (3, .int v3), (4, .int y5), (5, .int y6), (6, .int y7), (7, .int y8), (8, .int y9)] [] ?_ (fun k50 => ?_)
      · refine z_sub (lo1 := [(0, .ref (zb g + a0)), (1, .ref (zb g + a1)), (3, .int v3), (5, .int y6), (6, .int y7), (7, .int y8)]) [0, 1, 2, 4, 5, 6] rfl ?_
        obtain ⟨rfl, h0_⟩ := Prod.mk.inj (Option.some.inj h)
        obtain ⟨rfl, h1_⟩ := Prod.mk.inj h0_
        obtain ⟨rfl, rfl⟩ := Prod.mk.inj h1_
        exact kx
      · refine z_icmp_ge C0 166 dX9_tryWay_32 (by decide) (fun c11 => ?_) (fun c11 => ?_)
        · exact k50
        · refine z_iload C0 dX9_tryWay_35 7 rfl ?_
          refine z_iconst (v := (5 : Int32)) C0 dX9_tryWay_37 (by decide) ?_
          refine z_icmp_ge C0 166 dX9_tryWay_38 (by decide) (fun c12 => ?_) (fun c12 => ?_)
          · exact k50
          · exact absurd ⟨c11, c12⟩ hc45
set_option maxHeartbeats 4000000 in
set_option maxRecDepth 100000 in
theorem r_X9_tryWay {l : Launch} {g : zL} (a0 : Nat) (a1 : Nat) (v2 : Int32) (v3 : Int32) (μ : zM) (hT0 : zT zNN zσ1 a0 9) (hT1 : zT zNN zσ1 a1 1) {μr : zM} (h : f_X9_tryWay a0 a1 v2 v3 μ = some μr) : zMet l g yX9_tryWay cX9_tryWay 10 none 2 0 0 zNN zNN zσ1 zσ1 [.ref (zb g + a0), .ref (zb g + a1), .int v2, .int v3] μ none μr := by
  refine zMet.of (by decide +kernel) (Nat.le_of_ble_eq_true rfl) ?_
  intro p e s m args below meth c C0
  refine z_loc (lo1 := [(0, .ref (zb g + a0)), (1, .ref (zb g + a1)), (2, .int v2), (3, .int v3)]) rfl ?_
  unfold f_X9_tryWay at h
  refine z_iload_n C0 dX9_tryWay_0 rfl 2 rfl ?_
  refine z_istore (lo1 := [(4, .int v2), (0, .ref (zb g + a0)), (1, .ref (zb g + a1)), (2, .int v2), (3, .int v3)]) C0 dX9_tryWay_1 (by decide) rfl ?_
  refine z_iconst (v := (0 : Int32)) C0 dX9_tryWay_3 (by decide) ?_
  refine z_istore (lo1 := [(5, .int (0 : Int32)), (4, .int v2), (0, .ref (zb g + a0)), (1, .ref (zb g + a1)), (2, .int v2), (3, .int v3)]) C0 dX9_tryWay_4 (by decide) rfl ?_
  refine z_aload_n C0 dX9_tryWay_6 rfl 3 rfl ?_
  refine z_iconst (v := (0 : Int32)) C0 dX9_tryWay_7 (by decide) ?_
  refine z_callV (As := [.int (0 : Int32)]) (rest := []) C0 rfl kc_X1_graveList km_RX9_98 (r_X1_graveList (l := l) (g := g) a1 (0 : Int32) μ hT1 rfl) hT1.1 hT1.2.2.1 rfl (by decide) rfl (Nat.le_of_ble_eq_true rfl) (Nat.le_of_ble_eq_true rfl) (Nat.le_of_ble_eq_true rfl) (Nat.le_of_ble_eq_true rfl) (Nat.le_refl _) rfl rfl dX9_tryWay_8 ?_
  obtain ⟨x1, e_x1, h⟩ := zl_of h
  refine z_nm e_x1 ?_
  refine z_istore (lo1 := [(6, .int x1), (5, .int (0 : Int32)), (4, .int v2), (0, .ref (zb g + a0)), (1, .ref (zb g + a1)), (2, .int v2), (3, .int v3)]) C0 dX9_tryWay_11 (by decide) rfl ?_
  refine z_aload_n C0 dX9_tryWay_13 rfl 4 rfl ?_
  refine z_iconst (v := (1 : Int32)) C0 dX9_tryWay_14 (by decide) ?_
  refine z_callV (As := [.int (1 : Int32)]) (rest := []) C0 rfl kc_X1_graveList km_RX9_98 (r_X1_graveList (l := l) (g := g) a1 (1 : Int32) μ hT1 rfl) hT1.1 hT1.2.2.1 rfl (by decide) rfl (Nat.le_of_ble_eq_true rfl) (Nat.le_of_ble_eq_true rfl) (Nat.le_of_ble_eq_true rfl) (Nat.le_of_ble_eq_true rfl) (Nat.le_refl _) rfl rfl dX9_tryWay_15 ?_
  obtain ⟨x2, e_x2, h⟩ := zl_of h
  refine z_nm e_x2 ?_
  refine z_istore (lo1 := [(7, .int x2), (6, .int x1), (5, .int (0 : Int32)), (4, .int v2), (0, .ref (zb g + a0)), (1, .ref (zb g + a1)), (2, .int v2), (3, .int v3)]) C0 dX9_tryWay_18 (by decide) rfl ?_
  refine z_iconst (v := (0 : Int32)) C0 dX9_tryWay_20 (by decide) ?_
  refine z_istore (lo1 := [(8, .int (0 : Int32)), (7, .int x2), (6, .int x1), (5, .int (0 : Int32)), (4, .int v2), (0, .ref (zb g + a0)), (1, .ref (zb g + a1)), (2, .int v2), (3, .int v3)]) C0 dX9_tryWay_21 (by decide) rfl ?_
  refine z_sub (lo1 := [(0, .ref (zb g + a0)), (1, .ref (zb g + a1)), (3, .int v3), (4, .int v2), (5, .int (0 : Int32)), (6, .int x1), (7, .int x2), (8, .int (0 : Int32))]) [5, 6, 8, 4, 3, 2, 1, 0] rfl ?_
  obtain ⟨x34, x35, x36, μ37, e_x34, h⟩ := zbd4_of h
  refine r_X9_tryWay_L23 C0 a0 a1 v3 hT0 hT1 zFU v2 (0 : Int32) x1 x2 (0 : Int32) μ x34 x35 x36 μ37 e_x34 ?_
  refine z_aload_n C0 dX9_tryWay_166 rfl 0 rfl ?_
  refine z_getr C0 hT0 kf_9_15 zr_9_6 zx_9 (zs_9_6 hT0).1 dX9_tryWay_167 ?_
  refine z_aload_n C0 dX9_tryWay_170 rfl 1 rfl ?_
  refine z_iload C0 dX9_tryWay_171 5 rfl ?_
  refine z_callV (As := [.int x36]) (rest := [.ref (zb g + (a0 + 2))]) C0 rfl kc_X1_lean km_RX9_104 (r_X1_lean (l := l) (g := g) a1 x36 μ37 hT1 rfl) hT1.1 hT1.2.2.1 rfl (by decide) rfl (Nat.le_of_ble_eq_true rfl) (Nat.le_of_ble_eq_true rfl) (Nat.le_of_ble_eq_true rfl) (Nat.le_of_ble_eq_true rfl) (Nat.le_refl _) rfl rfl dX9_tryWay_173 ?_
  refine z_iconst (v := (1 : Int32)) C0 dX9_tryWay_176 (by decide) ?_
  refine z_iadd C0 dX9_tryWay_177 ?_
  refine z_iconst (v := (3 : Int32)) C0 dX9_tryWay_178 (by decide) ?_
  refine z_imul C0 dX9_tryWay_179 ?_
  refine z_aload_n C0 dX9_tryWay_180 rfl 1 rfl ?_
  refine z_iload C0 dX9_tryWay_181 4 rfl ?_
  refine z_callV (As := [.int x35]) (rest := [.int (((f_X1_lean a1 x36 μ37) + (1 : Int32)) * (3 : Int32)), .ref (zb g + (a0 + 2))]) C0 rfl kc_X1_lean km_RX9_104 (r_X1_lean (l := l) (g := g) a1 x35 μ37 hT1 rfl) hT1.1 hT1.2.2.1 rfl (by decide) rfl (Nat.le_of_ble_eq_true rfl) (Nat.le_of_ble_eq_true rfl) (Nat.le_of_ble_eq_true rfl) (Nat.le_of_ble_eq_true rfl) (Nat.le_refl _) rfl rfl dX9_tryWay_183 ?_
  refine z_iadd C0 dX9_tryWay_186 ?_
  refine z_iconst (v := (1 : Int32)) C0 dX9_tryWay_187 (by decide) ?_
  refine z_iadd C0 dX9_tryWay_188 ?_
  obtain ⟨g38, h⟩ := zg_of h
  refine z_iald C0 (zs_9_6 hT0).2 g38 rfl dX9_tryWay_189 ?_
  obtain ⟨x39, e_x39, h⟩ := zl_of h
  refine z_nm e_x39 ?_
  refine z_istore (lo1 := [(8, .int x39), (0, .ref (zb g + a0)), (1, .ref (zb g + a1)), (3, .int v3), (5, .int x34), (6, .int x35), (7, .int x36)]) C0 dX9_tryWay_190 (by decide) rfl ?_
  refine z_aload_n C0 dX9_tryWay_192 rfl 1 rfl ?_
  refine z_aload_n C0 dX9_tryWay_193 rfl 1 rfl ?_
  refine z_geti C0 hT0.1 hT0.2.2.1 kf_9_53 zr_9_3 dX9_tryWay_194 ?_
  refine z_iload C0 dX9_tryWay_197 0 rfl ?_
  refine z_mmax C0 rfl kM_RX9_107 kM_max (Nat.le_of_ble_eq_true rfl) (Nat.zero_le _) (Nat.zero_le _) dX9_tryWay_199 ?_
  obtain ⟨μ40, e_μ40, h⟩ := zl_of h
  refine z_puti C0 hT0.1 hT0.2.2.1 kf_9_53 zp_9_3 zr_9_3 e_μ40 dX9_tryWay_202 ?_
  refine z_iload C0 dX9_tryWay_205 0 rfl ?_
  refine z_iload_n C0 dX9_tryWay_207 rfl 3 rfl ?_
  obtain ⟨μ44, e_μ44, h⟩ := zbd_of h
  refine z_join μ44 224 [] [] ?_ (fun k_J42 => ?_)
  · have h := Option.some.inj h
    obtain rfl := h
    exact z_vret C0 rfl dX9_tryWay_224
  · have h := e_μ44
    refine z_icmp_ne C0 224 dX9_tryWay_208 (by decide) (fun c41 => ?_) (fun c41 => ?_)
    · have h := zif_t c41 h
      refine z_sub (lo1 := []) [] rfl ?_
      obtain rfl := (Option.some.inj h)
      exact k_J42
    · have h := zif_f (fun q => q c41) h
      refine z_aload_n C0 dX9_tryWay_211 rfl 1 rfl ?_
      refine z_iload C0 dX9_tryWay_212 4 rfl ?_
      refine z_aload_n C0 dX9_tryWay_214 rfl 2 rfl ?_
      refine z_getr C0 hT1 kf_9_36 zr_1_4 zx_1 (zs_1_4 hT1).1 dX9_tryWay_215 ?_
      refine z_geti C0 (zs_1_4 hT1).2.1 (zs_1_4 hT1).2.2.2.1 kf_9_42 zr_6_2 dX9_tryWay_218 ?_
      obtain ⟨μ43, e_μ43, h⟩ := zbd_of h
      refine z_callV (As := [.int x34, .int (μ40 (a1 + 8) 2)]) (rest := []) C0 rfl kc_X9_keepWay km_RX9_112 (r_X9_keepWay (l := l) (g := g) a0 x34 (μ40 (a1 + 8) 2) μ40 hT0 e_μ43) hT0.1 hT0.2.2.1 rfl (by decide) rfl (Nat.le_of_ble_eq_true rfl) (Nat.le_of_ble_eq_true rfl) (Nat.le_of_ble_eq_true rfl) (Nat.le_of_ble_eq_true rfl) (Nat.le_refl _) rfl rfl dX9_tryWay_221 ?_
      refine z_sub (lo1 := []) [] rfl ?_
      obtain rfl := (Option.some.inj h)
      exact k_J42
def f_X9_look_L8 (a0 : Nat) (a1 : Nat) (a2 : Nat) (a3 : Nat) : Nat → Int32 → zM → Option (zM)
  | 0, _, _ => none
  | n + 1, y6, μ7 =>
    if (9 : Int32) ≤ y6 then
      some μ7
    else
      zbd2 (f_X9_follow a1 a2 a3 y6 μ7) fun r9 μ10 =>
      zg (zin y6 9) <|
      zl (zup μ10 (a0 + 2) (y6.toNatClampNeg) r9) fun μ12 =>
      zl (y6 + (1 : Int32)) fun x13 =>
      f_X9_look_L8 a0 a1 a2 a3 n x13 μ12
def f_X9_look_L69 (a0 : Nat) (a1 : Nat) (a2 : Nat) : Nat → Int32 → zM → Option (zM)
  | 0, _, _ => none
  | n + 1, y22, μ23 =>
    if (25 : Int32) ≤ y22 then
      some μ23
    else
      zg (zin y22 25) <|
      zl (zup μ23 (a0 + 3) (y22.toNatClampNeg) (0 : Int32)) fun μ26 =>
      zl (y22 + (1 : Int32)) fun x27 =>
      f_X9_look_L69 a0 a1 a2 n x27 μ26
def f_X9_look_L96 (a0 : Nat) (a1 : Nat) (a2 : Nat) (μ34 : zM) : Nat → Int32 → Int32 → Option (Int32)
  | 0, _, _ => none
  | n + 1, y32, y33 =>
    if (μ34 (a1 + 8) 2) ≤ y33 then
      some y32
    else
      zl (y32 * ((μ34 a0 5) + (1 : Int32))) fun x36 =>
      zl (y33 + (1 : Int32)) fun x37 =>
      f_X9_look_L96 a0 a1 a2 μ34 n x36 x37
def f_X9_look_L128 (a0 : Nat) (a1 : Nat) (a2 : Nat) (x38 : Int32) : Nat → Int32 → zM → Option (zM)
  | 0, _, _ => none
  | n + 1, y42, μ43 =>
    if x38 ≤ y42 then
      some μ43
    else
      zbd (f_X9_tryWay a0 a1 y42 (μ43 a2 2) μ43) fun μ45 =>
      zl (y42 + (1 : Int32)) fun x46 =>
      f_X9_look_L128 a0 a1 a2 x38 n x46 μ45
def f_X9_look (a0 : Nat) (a1 : Nat) (a2 : Nat) (a3 : Nat) (μ : zM) : Option (zM) :=
  zbd (f_X9_findCorners a0 a1 μ) fun μ1 =>
  zbd (f_X9_look_L8 a0 a1 a2 a3 zFU (0 : Int32) μ1) fun μ14 =>
  zl (zup μ14 a0 0 (0 : Int32)) fun μ15 =>
  zl (zup μ15 a0 1 (((1 : Int32) <<< ((μ15 (a1 + 8) 2) &&& 31)) - (1 : Int32))) fun μ16 =>
  zl (zup μ16 a0 2 (-1 : Int32)) fun μ17 =>
  zl (zup μ17 a0 3 (0 : Int32)) fun μ18 =>
  zbd (f_X9_look_L69 a0 a1 a2 zFU (0 : Int32) μ18) fun μ28 =>
  zbd (f_X9_look_L96 a0 a1 a2 μ28 zFU (1 : Int32) (0 : Int32)) fun x38 =>
  zbd (f_X9_look_L128 a0 a1 a2 x38 zFU (0 : Int32) μ28) fun μ47 =>
  zl (if ¬ (μ47 a0 0) = 0 then
      (μ47 a0 1)
    else
      (0 : Int32)) fun x50 =>
  zl (zup μ47 a0 1 x50) fun μ51 =>
  some μ51
set_option maxHeartbeats 4000000 in
set_option maxRecDepth 100000 in
theorem r_X9_look_L8 {l : Launch} {g : zL} {p : Program} {e : Env} {s : State} {m : MethodId} {args : Array Value} {below : List Frame} {meth : Method} {c : Code} {Q : State → Prop} (C0 : zC p s m args meth c g cX9_look yX9_look 6 none) (a0 : Nat) (a1 : Nat) (a2 : Nat) (a3 : Nat) (hU2 : zT zNN zσ1 a0 9) (hU3 : zT zNN zσ1 a1 1) (hU4 : zT zNN zσ1 a2 6) (hU5 : zT zNN zσ1 a3 4) : ∀ (n : Nat) (y6 : Int32) (μ7 : zM) (μ14 : zM), f_X9_look_L8 a0 a1 a2 a3 n y6 μ7 = some μ14 → Z p l e (zrm 4 0 0) s m args below meth c g Q 6 zNN 0 0 zσ1 μ14 36 [(0, .ref (zb g + a0)), (1, .ref (zb g + a1)), (2, .ref (zb g + a2))] [] → Z p l e (zrm 4 0 0) s m args below meth c g Q 6 zNN 0 0 zσ1 μ7 8 [(0, .ref (zb g + a0)), (1, .ref (zb g + a1)), (2, .ref (zb g + a2)), (3, .ref (zb g + a3)), (4, .int y6)] [] := by
  intro n
  induction n with
  | zero =>
    intro y6 μ7 μ14 h kx
    rw [f_X9_look_L8] at h
    cases h
  | succ n ih =>
    intro y6 μ7 μ14 h kx
    rw [f_X9_look_L8] at h
    refine z_iload C0 dX9_look_8 4 rfl ?_
    refine z_bipush (v := (9 : Int32)) C0 dX9_look_10 (by decide) ?_
    refine z_icmp_ge C0 36 dX9_look_12 (by decide) (fun c8 => ?_) (fun c8 => ?_)
    · have h := zif_t c8 h
      refine z_sub (lo1 := [(0, .ref (zb g + a0)), (1, .ref (zb g + a1)), (2, .ref (zb g + a2))]) [0, 1, 2] rfl ?_
      obtain rfl := (Option.some.inj h)
      exact kx
    · have h := zif_f c8 h
      refine z_aload_n C0 dX9_look_15 rfl 0 rfl ?_
      refine z_getr C0 hU2 kf_9_15 zr_9_6 zx_9 (zs_9_6 hU2).1 dX9_look_16 ?_
      refine z_iload C0 dX9_look_19 4 rfl ?_
      refine z_aload_n C0 dX9_look_21 rfl 1 rfl ?_
      refine z_aload_n C0 dX9_look_22 rfl 2 rfl ?_
      refine z_aload_n C0 dX9_look_23 rfl 3 rfl ?_
      refine z_iload C0 dX9_look_24 4 rfl ?_
      obtain ⟨r9, μ10, e_r9, h⟩ := zbd2_of h
      refine z_callS (As := [.ref (zb g + a1), .ref (zb g + a2), .ref (zb g + a3), .int y6]) (rest := [.int y6, .ref (zb g + (a0 + 2))]) C0 rfl kc_X9_follow km_RX9_28 (r_X9_follow (l := l) (g := g) a1 a2 a3 y6 μ7 hU3 hU4 hU5 e_r9) rfl (Nat.le_of_ble_eq_true rfl) (Nat.le_of_ble_eq_true rfl) (Nat.le_of_ble_eq_true rfl) (Nat.le_of_ble_eq_true rfl) (Nat.le_refl _) rfl rfl dX9_look_26 ?_
      obtain ⟨g11, h⟩ := zg_of h
      obtain ⟨μ12, e_μ12, h⟩ := zl_of h
      refine z_iast C0 (zs_9_6 hU2).2 g11 rfl e_μ12 dX9_look_29 ?_
      obtain ⟨x13, e_x13, h⟩ := zl_of h
      refine z_iinc (lo1 := [(4, .int x13), (0, .ref (zb g + a0)), (1, .ref (zb g + a1)), (2, .ref (zb g + a2)), (3, .ref (zb g + a3))]) C0 dX9_look_30 4 rfl (by decide) e_x13.symm (by decide) rfl ?_
      refine z_goto C0 8 dX9_look_33 (by decide) ?_
      refine z_sub (lo1 := [(0, .ref (zb g + a0)), (1, .ref (zb g + a1)), (2, .ref (zb g + a2)), (3, .ref (zb g + a3)), (4, .int x13)]) [1, 2, 3, 4, 0] rfl ?_
      exact ih _ _ _ h kx
set_option maxHeartbeats 4000000 in
set_option maxRecDepth 100000 in
theorem r_X9_look_L69 {l : Launch} {g : zL} {p : Program} {e : Env} {s : State} {m : MethodId} {args : Array Value} {below : List Frame} {meth : Method} {c : Code} {Q : State → Prop} (C0 : zC p s m args meth c g cX9_look yX9_look 6 none) (a0 : Nat) (a1 : Nat) (a2 : Nat) (hU19 : zT zNN zσ1 a0 9) (hU20 : zT zNN zσ1 a1 1) (hU21 : zT zNN zσ1 a2 6) : ∀ (n : Nat) (y22 : Int32) (μ23 : zM) (μ28 : zM), f_X9_look_L69 a0 a1 a2 n y22 μ23 = some μ28 → Z p l e (zrm 4 0 0) s m args below meth c g Q 6 zNN 0 0 zσ1 μ28 90 [(0, .ref (zb g + a0)), (1, .ref (zb g + a1)), (2, .ref (zb g + a2))] [] → Z p l e (zrm 4 0 0) s m args below meth c g Q 6 zNN 0 0 zσ1 μ23 69 [(0, .ref (zb g + a0)), (1, .ref (zb g + a1)), (2, .ref (zb g + a2)), (4, .int y22)] [] := by
  intro n
  induction n with
  | zero =>
    intro y22 μ23 μ28 h kx
    rw [f_X9_look_L69] at h
    cases h
  | succ n ih =>
    intro y22 μ23 μ28 h kx
    rw [f_X9_look_L69] at h
    refine z_iload C0 dX9_look_69 3 rfl ?_
    refine z_bipush (v := (25 : Int32)) C0 dX9_look_71 (by decide) ?_
    refine z_icmp_ge C0 90 dX9_look_73 (by decide) (fun c24 => ?_) (fun c24 => ?_)
    · have h := zif_t c24 h
      refine z_sub (lo1 := [(0, .ref (zb g + a0)), (1, .ref (zb g + a1)), (2, .ref (zb g + a2))]) [0, 1, 2] rfl ?_
      obtain rfl := (Option.some.inj h)
      exact kx
    · have h := zif_f c24 h
      refine z_aload_n C0 dX9_look_76 rfl 0 rfl ?_
      refine z_getr C0 hU19 kf_9_18 zr_9_7 zx_9 (zs_9_7 hU19).1 dX9_look_77 ?_
      refine z_iload C0 dX9_look_80 3 rfl ?_
      refine z_iconst (v := (0 : Int32)) C0 dX9_look_82 (by decide) ?_
      obtain ⟨g25, h⟩ := zg_of h
      obtain ⟨μ26, e_μ26, h⟩ := zl_of h
      refine z_iast C0 (zs_9_7 hU19).2 g25 rfl e_μ26 dX9_look_83 ?_
      obtain ⟨x27, e_x27, h⟩ := zl_of h
      refine z_iinc (lo1 := [(4, .int x27), (0, .ref (zb g + a0)), (1, .ref (zb g + a1)), (2, .ref (zb g + a2))]) C0 dX9_look_84 3 rfl (by decide) e_x27.symm (by decide) rfl ?_
      refine z_goto C0 69 dX9_look_87 (by decide) ?_
      refine z_sub (lo1 := [(0, .ref (zb g + a0)), (1, .ref (zb g + a1)), (2, .ref (zb g + a2)), (4, .int x27)]) [1, 2, 3, 0] rfl ?_
      exact ih _ _ _ h kx
set_option maxHeartbeats 4000000 in
set_option maxRecDepth 100000 in
theorem r_X9_look_L96 {l : Launch} {g : zL} {p : Program} {e : Env} {s : State} {m : MethodId} {args : Array Value} {below : List Frame} {meth : Method} {c : Code} {Q : State → Prop} (C0 : zC p s m args meth c g cX9_look yX9_look 6 none) (a0 : Nat) (a1 : Nat) (a2 : Nat) (μ34 : zM) (hU29 : zT zNN zσ1 a0 9) (hU30 : zT zNN zσ1 a1 1) (hU31 : zT zNN zσ1 a2 6) : ∀ (n : Nat) (y32 : Int32) (y33 : Int32) (x38 : Int32), f_X9_look_L96 a0 a1 a2 μ34 n y32 y33 = some x38 → Z p l e (zrm 4 0 0) s m args below meth c g Q 6 zNN 0 0 zσ1 μ34 125 [(0, .ref (zb g + a0)), (1, .ref (zb g + a1)), (2, .ref (zb g + a2)), (4, .int x38)] [] → Z p l e (zrm 4 0 0) s m args below meth c g Q 6 zNN 0 0 zσ1 μ34 96 [(0, .ref (zb g + a0)), (1, .ref (zb g + a1)), (2, .ref (zb g + a2)), (4, .int y32), (5, .int y33)] [] := by
  intro n
  induction n with
  | zero =>
    intro y32 y33 x38 h kx
    rw [f_X9_look_L96] at h
    cases h
  | succ n ih =>
    intro y32 y33 x38 h kx
    rw [f_X9_look_L96] at h
    refine z_iload C0 dX9_look_96 4 rfl ?_
    refine z_aload_n C0 dX9_look_98 rfl 1 rfl ?_
    refine z_getr C0 hU30 kf_9_36 zr_1_4 zx_1 (zs_1_4 hU30).1 dX9_look_99 ?_
    refine z_geti C0 (zs_1_4 hU30).2.1 (zs_1_4 hU30).2.2.2.1 kf_9_42 zr_6_2 dX9_look_102 ?_
    refine z_icmp_ge C0 125 dX9_look_105 (by decide) (fun c35 => ?_) (fun c35 => ?_)
    · have h := zif_t c35 h
      refine z_sub (lo1 := [(0, .ref (zb g + a0)), (1, .ref (zb g + a1)), (2, .ref (zb g + a2)), (4, .int y32)]) [0, 1, 2, 3] rfl ?_
      obtain rfl := (Option.some.inj h)
      exact kx
    · have h := zif_f c35 h
      refine z_iload C0 dX9_look_108 3 rfl ?_
      refine z_aload_n C0 dX9_look_110 rfl 0 rfl ?_
      refine z_geti C0 hU29.1 hU29.2.2.1 kf_9_56 zr_9_5 dX9_look_111 ?_
      refine z_iconst (v := (1 : Int32)) C0 dX9_look_114 (by decide) ?_
      refine z_iadd C0 dX9_look_115 ?_
      refine z_imul C0 dX9_look_116 ?_
      obtain ⟨x36, e_x36, h⟩ := zl_of h
      refine z_nm e_x36 ?_
      refine z_istore (lo1 := [(4, .int x36), (0, .ref (zb g + a0)), (1, .ref (zb g + a1)), (2, .ref (zb g + a2)), (5, .int y33)]) C0 dX9_look_117 (by decide) rfl ?_
      obtain ⟨x37, e_x37, h⟩ := zl_of h
      refine z_iinc (lo1 := [(5, .int x37), (4, .int x36), (0, .ref (zb g + a0)), (1, .ref (zb g + a1)), (2, .ref (zb g + a2))]) C0 dX9_look_119 4 rfl (by decide) e_x37.symm (by decide) rfl ?_
      refine z_goto C0 96 dX9_look_122 (by decide) ?_
      refine z_sub (lo1 := [(0, .ref (zb g + a0)), (1, .ref (zb g + a1)), (2, .ref (zb g + a2)), (4, .int x36), (5, .int x37)]) [2, 3, 4, 1, 0] rfl ?_
      exact ih _ _ _ h kx
set_option maxHeartbeats 4000000 in
set_option maxRecDepth 100000 in
theorem r_X9_look_L128 {l : Launch} {g : zL} {p : Program} {e : Env} {s : State} {m : MethodId} {args : Array Value} {below : List Frame} {meth : Method} {c : Code} {Q : State → Prop} (C0 : zC p s m args meth c g cX9_look yX9_look 6 none) (a0 : Nat) (a1 : Nat) (a2 : Nat) (x38 : Int32) (hU39 : zT zNN zσ1 a0 9) (hU40 : zT zNN zσ1 a1 1) (hU41 : zT zNN zσ1 a2 6) : ∀ (n : Nat) (y42 : Int32) (μ43 : zM) (μ47 : zM), f_X9_look_L128 a0 a1 a2 x38 n y42 μ43 = some μ47 → Z p l e (zrm 4 0 0) s m args below meth c g Q 6 zNN 0 0 zσ1 μ47 152 [(0, .ref (zb g + a0))] [] → Z p l e (zrm 4 0 0) s m args below meth c g Q 6 zNN 0 0 zσ1 μ43 128 [(0, .ref (zb g + a0)), (1, .ref (zb g + a1)), (2, .ref (zb g + a2)), (4, .int x38), (5, .int y42)] [] := by
  intro n
  induction n with
  | zero =>
    intro y42 μ43 μ47 h kx
    rw [f_X9_look_L128] at h
    cases h
  | succ n ih =>
    intro y42 μ43 μ47 h kx
    rw [f_X9_look_L128] at h
    refine z_iload C0 dX9_look_128 4 rfl ?_
    refine z_iload C0 dX9_look_130 3 rfl ?_
    refine z_icmp_ge C0 152 dX9_look_132 (by decide) (fun c44 => ?_) (fun c44 => ?_)
    · have h := zif_t c44 h
      refine z_sub (lo1 := [(0, .ref (zb g + a0))]) [0] rfl ?_
      obtain rfl := (Option.some.inj h)
      exact kx
    · have h := zif_f c44 h
      refine z_aload_n C0 dX9_look_135 rfl 0 rfl ?_
      refine z_aload_n C0 dX9_look_136 rfl 1 rfl ?_
      refine z_iload C0 dX9_look_137 4 rfl ?_
      refine z_aload_n C0 dX9_look_139 rfl 2 rfl ?_
      refine z_geti C0 hU41.1 hU41.2.2.1 kf_9_42 zr_6_2 dX9_look_140 ?_
      obtain ⟨μ45, e_μ45, h⟩ := zbd_of h
      refine z_callV (As := [.ref (zb g + a1), .int y42, .int (μ43 a2 2)]) (rest := []) C0 rfl kc_X9_tryWay km_RX9_59 (r_X9_tryWay (l := l) (g := g) a0 a1 y42 (μ43 a2 2) μ43 hU39 hU40 e_μ45) hU39.1 hU39.2.2.1 rfl (by decide) rfl (Nat.le_of_ble_eq_true rfl) (Nat.le_of_ble_eq_true rfl) (Nat.le_of_ble_eq_true rfl) (Nat.le_of_ble_eq_true rfl) (Nat.le_refl _) rfl rfl dX9_look_143 ?_
      obtain ⟨x46, e_x46, h⟩ := zl_of h
      refine z_iinc (lo1 := [(5, .int x46), (0, .ref (zb g + a0)), (1, .ref (zb g + a1)), (2, .ref (zb g + a2)), (4, .int x38)]) C0 dX9_look_146 4 rfl (by decide) e_x46.symm (by decide) rfl ?_
      refine z_goto C0 128 dX9_look_149 (by decide) ?_
      refine z_sub (lo1 := [(0, .ref (zb g + a0)), (1, .ref (zb g + a1)), (2, .ref (zb g + a2)), (4, .int x38), (5, .int x46)]) [1, 2, 3, 4, 0] rfl ?_
      exact ih _ _ _ h kx
set_option maxHeartbeats 4000000 in
set_option maxRecDepth 100000 in
theorem r_X9_look {l : Launch} {g : zL} (a0 : Nat) (a1 : Nat) (a2 : Nat) (a3 : Nat) (μ : zM) (hT0 : zT zNN zσ1 a0 9) (hT1 : zT zNN zσ1 a1 1) (hT2 : zT zNN zσ1 a2 6) (hT3 : zT zNN zσ1 a3 4) {μr : zM} (h : f_X9_look a0 a1 a2 a3 μ = some μr) : zMet l g yX9_look cX9_look 6 none 4 0 0 zNN zNN zσ1 zσ1 [.ref (zb g + a0), .ref (zb g + a1), .ref (zb g + a2), .ref (zb g + a3)] μ none μr := by
  refine zMet.of (by decide +kernel) (Nat.le_of_ble_eq_true rfl) ?_
  intro p e s m args below meth c C0
  refine z_loc (lo1 := [(0, .ref (zb g + a0)), (1, .ref (zb g + a1)), (2, .ref (zb g + a2)), (3, .ref (zb g + a3))]) rfl ?_
  unfold f_X9_look at h
  refine z_aload_n C0 dX9_look_0 rfl 0 rfl ?_
  refine z_aload_n C0 dX9_look_1 rfl 1 rfl ?_
  obtain ⟨μ1, e_μ1, h⟩ := zbd_of h
  refine z_callV (As := [.ref (zb g + a1)]) (rest := []) C0 rfl kc_X9_findCorners km_RX9_24 (r_X9_findCorners (l := l) (g := g) a0 a1 μ hT0 hT1 e_μ1) hT0.1 hT0.2.2.1 rfl (by decide) rfl (Nat.le_of_ble_eq_true rfl) (Nat.le_of_ble_eq_true rfl) (Nat.le_of_ble_eq_true rfl) (Nat.le_of_ble_eq_true rfl) (Nat.le_refl _) rfl rfl dX9_look_2 ?_
  refine z_iconst (v := (0 : Int32)) C0 dX9_look_5 (by decide) ?_
  refine z_istore (lo1 := [(4, .int (0 : Int32)), (0, .ref (zb g + a0)), (1, .ref (zb g + a1)), (2, .ref (zb g + a2)), (3, .ref (zb g + a3))]) C0 dX9_look_6 (by decide) rfl ?_
  refine z_sub (lo1 := [(0, .ref (zb g + a0)), (1, .ref (zb g + a1)), (2, .ref (zb g + a2)), (3, .ref (zb g + a3)), (4, .int (0 : Int32))]) [1, 2, 3, 4, 0] rfl ?_
  obtain ⟨μ14, e_μ14, h⟩ := zbd_of h
  refine r_X9_look_L8 C0 a0 a1 a2 a3 hT0 hT1 hT2 hT3 zFU (0 : Int32) μ1 μ14 e_μ14 ?_
  refine z_aload_n C0 dX9_look_36 rfl 0 rfl ?_
  refine z_iconst (v := (0 : Int32)) C0 dX9_look_37 (by decide) ?_
  obtain ⟨μ15, e_μ15, h⟩ := zl_of h
  refine z_puti C0 hT0.1 hT0.2.2.1 kf_9_32 zp_9_0 zr_9_0 e_μ15 dX9_look_38 ?_
  refine z_aload_n C0 dX9_look_41 rfl 0 rfl ?_
  refine z_iconst (v := (1 : Int32)) C0 dX9_look_42 (by decide) ?_
  refine z_aload_n C0 dX9_look_43 rfl 1 rfl ?_
  refine z_getr C0 hT1 kf_9_36 zr_1_4 zx_1 (zs_1_4 hT1).1 dX9_look_44 ?_
  refine z_geti C0 (zs_1_4 hT1).2.1 (zs_1_4 hT1).2.2.2.1 kf_9_42 zr_6_2 dX9_look_47 ?_
  refine z_ishl C0 dX9_look_50 ?_
  refine z_iconst (v := (1 : Int32)) C0 dX9_look_51 (by decide) ?_
  refine z_isub C0 dX9_look_52 ?_
  obtain ⟨μ16, e_μ16, h⟩ := zl_of h
  refine z_puti C0 hT0.1 hT0.2.2.1 kf_9_47 zp_9_1 zr_9_1 e_μ16 dX9_look_53 ?_
  refine z_aload_n C0 dX9_look_56 rfl 0 rfl ?_
  refine z_iconst (v := (-1 : Int32)) C0 dX9_look_57 (by decide) ?_
  obtain ⟨μ17, e_μ17, h⟩ := zl_of h
  refine z_puti C0 hT0.1 hT0.2.2.1 kf_9_50 zp_9_2 zr_9_2 e_μ17 dX9_look_58 ?_
  refine z_aload_n C0 dX9_look_61 rfl 0 rfl ?_
  refine z_iconst (v := (0 : Int32)) C0 dX9_look_62 (by decide) ?_
  obtain ⟨μ18, e_μ18, h⟩ := zl_of h
  refine z_puti C0 hT0.1 hT0.2.2.1 kf_9_53 zp_9_3 zr_9_3 e_μ18 dX9_look_63 ?_
  refine z_iconst (v := (0 : Int32)) C0 dX9_look_66 (by decide) ?_
  refine z_istore (lo1 := [(4, .int (0 : Int32)), (0, .ref (zb g + a0)), (1, .ref (zb g + a1)), (2, .ref (zb g + a2))]) C0 dX9_look_67 (by decide) rfl ?_
  refine z_sub (lo1 := [(0, .ref (zb g + a0)), (1, .ref (zb g + a1)), (2, .ref (zb g + a2)), (4, .int (0 : Int32))]) [1, 2, 3, 0] rfl ?_
  obtain ⟨μ28, e_μ28, h⟩ := zbd_of h
  refine r_X9_look_L69 C0 a0 a1 a2 hT0 hT1 hT2 zFU (0 : Int32) μ18 μ28 e_μ28 ?_
  refine z_iconst (v := (1 : Int32)) C0 dX9_look_90 (by decide) ?_
  refine z_istore (lo1 := [(4, .int (1 : Int32)), (0, .ref (zb g + a0)), (1, .ref (zb g + a1)), (2, .ref (zb g + a2))]) C0 dX9_look_91 (by decide) rfl ?_
  refine z_iconst (v := (0 : Int32)) C0 dX9_look_93 (by decide) ?_
  refine z_istore (lo1 := [(5, .int (0 : Int32)), (4, .int (1 : Int32)), (0, .ref (zb g + a0)), (1, .ref (zb g + a1)), (2, .ref (zb g + a2))]) C0 dX9_look_94 (by decide) rfl ?_
  refine z_sub (lo1 := [(0, .ref (zb g + a0)), (1, .ref (zb g + a1)), (2, .ref (zb g + a2)), (4, .int (1 : Int32)), (5, .int (0 : Int32))]) [2, 3, 4, 1, 0] rfl ?_
  obtain ⟨x38, e_x38, h⟩ := zbd_of h
  refine r_X9_look_L96 C0 a0 a1 a2 μ28 hT0 hT1 hT2 zFU (1 : Int32) (0 : Int32) x38 e_x38 ?_
  refine z_iconst (v := (0 : Int32)) C0 dX9_look_125 (by decide) ?_
  refine z_istore (lo1 := [(5, .int (0 : Int32)), (0, .ref (zb g + a0)), (1, .ref (zb g + a1)), (2, .ref (zb g + a2)), (4, .int x38)]) C0 dX9_look_126 (by decide) rfl ?_
  refine z_sub (lo1 := [(0, .ref (zb g + a0)), (1, .ref (zb g + a1)), (2, .ref (zb g + a2)), (4, .int x38), (5, .int (0 : Int32))]) [1, 2, 3, 4, 0] rfl ?_
  obtain ⟨μ47, e_μ47, h⟩ := zbd_of h
  refine r_X9_look_L128 C0 a0 a1 a2 x38 hT0 hT1 hT2 zFU (0 : Int32) μ28 μ47 e_μ47 ?_
  refine z_aload_n C0 dX9_look_152 rfl 0 rfl ?_
  refine z_aload_n C0 dX9_look_153 rfl 0 rfl ?_
  refine z_geti C0 hT0.1 hT0.2.2.1 kf_9_32 zr_9_0 dX9_look_154 ?_
  obtain ⟨x50, e_x50, h⟩ := zl_of h
  refine z_join μ47 168 [] [.int x50, .ref (zb g + a0)] ?_ (fun k_J49 => ?_)
  · obtain ⟨μ51, e_μ51, h⟩ := zl_of h
    refine z_puti C0 hT0.1 hT0.2.2.1 kf_9_47 zp_9_1 zr_9_1 e_μ51 dX9_look_168 ?_
    have h := Option.some.inj h
    obtain rfl := h
    exact z_vret C0 rfl dX9_look_171
  · have h := e_x50.symm
    refine z_if_ne C0 164 dX9_look_157 (by decide) (fun c48 => ?_) (fun c48 => ?_)
    · have h := zif_t c48 h
      refine z_aload_n C0 dX9_look_164 rfl 0 rfl ?_
      refine z_geti C0 hT0.1 hT0.2.2.1 kf_9_47 zr_9_1 dX9_look_165 ?_
      refine z_sub (lo1 := []) [] rfl ?_
      obtain rfl := h
      exact k_J49
    · have h := zif_f (fun q => q c48) h
      refine z_iconst (v := (0 : Int32)) C0 dX9_look_160 (by decide) ?_
      refine z_goto C0 168 dX9_look_161 (by decide) ?_
      refine z_sub (lo1 := []) [] rfl ?_
      obtain rfl := h
      exact k_J49
def f_X9_waysAt_L27 (a0 : Nat) (v1 : Int32) (v2 : Int32) (μ8 : zM) : Nat → Int32 → Option ((Int32) ⊕ (Unit))
  | 0, _ => none
  | n + 1, y7 =>
    if (μ8 a0 5) ≤ y7 then
      some (.inr ())
    else
      zg (zin y7 4) <|
      if ¬ (μ8 (a0 + 1) (y7.toNatClampNeg)) = v2 then
        zl (y7 + (1 : Int32)) fun x16 =>
        f_X9_waysAt_L27 a0 v1 v2 μ8 n x16
      else
        zg (zin (((v1 * (5 : Int32)) + y7) + (1 : Int32)) 25) <|
        some (.inl (μ8 (a0 + 3) ((((v1 * (5 : Int32)) + y7) + (1 : Int32)).toNatClampNeg)))
def f_X9_waysAt (a0 : Nat) (v1 : Int32) (v2 : Int32) (μ : zM) : Option (Int32) :=
  if (¬ (v1 < 0)) ∧ (v1 < (5 : Int32)) then
    if ¬ v2 = (-1 : Int32) then
      zbd (f_X9_waysAt_L27 a0 v1 v2 μ zFU (0 : Int32)) fun q19 => zsum q19 (fun t => some t) fun _ =>
      some (-1 : Int32)
    else
      zg (zin (v1 * (5 : Int32)) 25) <|
      some (μ (a0 + 3) ((v1 * (5 : Int32)).toNatClampNeg))
  else
    some (-1 : Int32)
set_option maxHeartbeats 4000000 in
set_option maxRecDepth 100000 in
theorem r_X9_waysAt_L27 {l : Launch} {g : zL} {p : Program} {e : Env} {s : State} {m : MethodId} {args : Array Value} {below : List Frame} {meth : Method} {c : Code} {rv : Int32} (C0 : zC p s m args meth c g cX9_waysAt yX9_waysAt 4 (some (.int))) (a0 : Nat) (v1 : Int32) (v2 : Int32) (μ8 : zM) (hU6 : zT zNN zσ1 a0 9) : ∀ (n : Nat) (y7 : Int32) (q : (Int32) ⊕ (Unit)), f_X9_waysAt_L27 a0 v1 v2 μ8 n y7 = some q → (∀ t, q = Sum.inl t → t = rv) → (∀ o, q = Sum.inr o → Z p l e (zrm 0 0 0) s m args below meth c g (MQ below (zQ g zNN zσ1 (some (.int rv)) μ8) args s 0 0 (zA g)) 4 zNN 0 0 zσ1 ((fun _ => μ8) o) 64 ((fun o => []) o) []) → Z p l e (zrm 0 0 0) s m args below meth c g (MQ below (zQ g zNN zσ1 (some (.int rv)) μ8) args s 0 0 (zA g)) 4 zNN 0 0 zσ1 μ8 27 [(0, .ref (zb g + a0)), (1, .int v1), (2, .int v2), (3, .int y7)] [] := by
  intro n
  induction n with
  | zero =>
    intro y7 q h kr kx
    rw [f_X9_waysAt_L27] at h
    cases h
  | succ n ih =>
    intro y7 q h kr kx
    rw [f_X9_waysAt_L27] at h
    refine z_iload_n C0 dX9_waysAt_27 rfl 3 rfl ?_
    refine z_aload_n C0 dX9_waysAt_28 rfl 0 rfl ?_
    refine z_geti C0 hU6.1 hU6.2.2.1 kf_9_56 zr_9_5 dX9_waysAt_29 ?_
    refine z_icmp_ge C0 64 dX9_waysAt_32 (by decide) (fun c9 => ?_) (fun c9 => ?_)
    · have h := zif_t c9 h
      refine z_sub (lo1 := []) [] rfl ?_
      exact kx () (Option.some.inj h).symm
    · have h := zif_f c9 h
      refine z_aload_n C0 dX9_waysAt_35 rfl 0 rfl ?_
      refine z_getr C0 hU6 kf_9_11 zr_9_4 zx_9 (zs_9_4 hU6).1 dX9_waysAt_36 ?_
      refine z_iload_n C0 dX9_waysAt_39 rfl 3 rfl ?_
      obtain ⟨g14, h⟩ := zg_of h
      refine z_iald C0 (zs_9_4 hU6).2 g14 rfl dX9_waysAt_40 ?_
      refine z_iload_n C0 dX9_waysAt_41 rfl 2 rfl ?_
      refine z_icmp_ne C0 58 dX9_waysAt_42 (by decide) (fun c15 => ?_) (fun c15 => ?_)
      · have h := zif_t c15 h
        obtain ⟨x16, e_x16, h⟩ := zl_of h
        refine z_iinc (lo1 := [(3, .int x16), (0, .ref (zb g + a0)), (1, .int v1), (2, .int v2)]) C0 dX9_waysAt_58 3 rfl (by decide) e_x16.symm (by decide) rfl ?_
        refine z_goto C0 27 dX9_waysAt_61 (by decide) ?_
        refine z_sub (lo1 := [(0, .ref (zb g + a0)), (1, .int v1), (2, .int v2), (3, .int x16)]) [1, 2, 3, 0] rfl ?_
        exact ih _ _ h kr kx
      · have h := zif_f (fun q => q c15) h
        refine z_aload_n C0 dX9_waysAt_45 rfl 0 rfl ?_
        refine z_getr C0 hU6 kf_9_18 zr_9_7 zx_9 (zs_9_7 hU6).1 dX9_waysAt_46 ?_
        refine z_iload_n C0 dX9_waysAt_49 rfl 1 rfl ?_
        refine z_iconst (v := (5 : Int32)) C0 dX9_waysAt_50 (by decide) ?_
        refine z_imul C0 dX9_waysAt_51 ?_
        refine z_iload_n C0 dX9_waysAt_52 rfl 3 rfl ?_
        refine z_iadd C0 dX9_waysAt_53 ?_
        refine z_iconst (v := (1 : Int32)) C0 dX9_waysAt_54 (by decide) ?_
        refine z_iadd C0 dX9_waysAt_55 ?_
        obtain ⟨g17, h⟩ := zg_of h
        refine z_iald C0 (zs_9_7 hU6).2 g17 rfl dX9_waysAt_56 ?_
        have h := kr _ (Option.some.inj h).symm
        obtain rfl := h
        exact z_iret C0 rfl dX9_waysAt_57
set_option maxHeartbeats 4000000 in
set_option maxRecDepth 100000 in
theorem r_X9_waysAt {l : Launch} {g : zL} (a0 : Nat) (v1 : Int32) (v2 : Int32) (μ : zM) (hT0 : zT zNN zσ1 a0 9) {rv : Int32} (h : f_X9_waysAt a0 v1 v2 μ = some rv) : zMet l g yX9_waysAt cX9_waysAt 4 (some (.int)) 0 0 0 zNN zNN zσ1 zσ1 [.ref (zb g + a0), .int v1, .int v2] μ (some (.int rv)) μ := by
  refine zMet.of (by decide +kernel) (Nat.le_of_ble_eq_true rfl) ?_
  intro p e s m args below meth c C0
  refine z_loc (lo1 := [(0, .ref (zb g + a0)), (1, .int v1), (2, .int v2)]) rfl ?_
  unfold f_X9_waysAt at h
  refine z_iload_n C0 dX9_waysAt_0 rfl 1 rfl ?_
  by_cases hc20 : (¬ (v1 < 0)) ∧ (v1 < (5 : Int32))
  · have h := zif_t hc20 h
    refine z_join μ 11 [(0, .ref (zb g + a0)), (1, .int v1), (2, .int v2)] [] ?_ (fun k21 => ?_)
    · refine z_iload_n C0 dX9_waysAt_11 rfl 2 rfl ?_
      refine z_iconst (v := (-1 : Int32)) C0 dX9_waysAt_12 (by decide) ?_
      refine z_icmp_ne C0 25 dX9_waysAt_13 (by decide) (fun c5 => ?_) (fun c5 => ?_)
      · have h := zif_t c5 h
        refine z_iconst (v := (0 : Int32)) C0 dX9_waysAt_25 (by decide) ?_
        refine z_istore_n (lo1 := [(3, .int (0 : Int32)), (0, .ref (zb g + a0)), (1, .int v1), (2, .int v2)]) C0 dX9_waysAt_26 rfl (by decide) rfl ?_
        refine z_sub (lo1 := [(0, .ref (zb g + a0)), (1, .int v1), (2, .int v2), (3, .int (0 : Int32))]) [1, 2, 3, 0] rfl ?_
        obtain ⟨q19, e_q19, h⟩ := zbd_of h
        refine r_X9_waysAt_L27 C0 a0 v1 v2 μ hT0 zFU (0 : Int32) q19 e_q19 ?_ ?_
        · intro t ht
          have h := zsum_l h _ ht
          exact Option.some.inj h
        · intro u_ hq
          have h := zsum_r h _ hq
          refine z_iconst (v := (-1 : Int32)) C0 dX9_waysAt_64 (by decide) ?_
          have h := Option.some.inj h
          obtain rfl := h
          exact z_iret C0 rfl dX9_waysAt_65
      · have h := zif_f (fun q => q c5) h
        refine z_aload_n C0 dX9_waysAt_16 rfl 0 rfl ?_
        refine z_getr C0 hT0 kf_9_18 zr_9_7 zx_9 (zs_9_7 hT0).1 dX9_waysAt_17 ?_
        refine z_iload_n C0 dX9_waysAt_20 rfl 1 rfl ?_
        refine z_iconst (v := (5 : Int32)) C0 dX9_waysAt_21 (by decide) ?_
        refine z_imul C0 dX9_waysAt_22 ?_
        obtain ⟨g18, h⟩ := zg_of h
        refine z_iald C0 (zs_9_7 hT0).2 g18 rfl dX9_waysAt_23 ?_
        have h := Option.some.inj h
        obtain rfl := h
        exact z_iret C0 rfl dX9_waysAt_24
    · refine z_if_lt C0 9 dX9_waysAt_1 (by decide) (fun c1 => ?_) (fun c1 => ?_)
      · exact absurd hc20 (fun q => q.1 c1)
      · refine z_iload_n C0 dX9_waysAt_4 rfl 1 rfl ?_
        refine z_iconst (v := (5 : Int32)) C0 dX9_waysAt_5 (by decide) ?_
        refine z_icmp_lt C0 11 dX9_waysAt_6 (by decide) (fun c4 => ?_) (fun c4 => ?_)
        · exact k21
        · exact absurd hc20 (fun q => c4 q.2)
  · have h := zif_f hc20 h
    refine z_join μ 9 [(0, .ref (zb g + a0)), (1, .int v1), (2, .int v2)] [] ?_ (fun k22 => ?_)
    · refine z_iconst (v := (-1 : Int32)) C0 dX9_waysAt_9 (by decide) ?_
      have h := Option.some.inj h
      obtain rfl := h
      exact z_iret C0 rfl dX9_waysAt_10
    · refine z_if_lt C0 9 dX9_waysAt_1 (by decide) (fun c1 => ?_) (fun c1 => ?_)
      · exact k22
      · refine z_iload_n C0 dX9_waysAt_4 rfl 1 rfl ?_
        refine z_iconst (v := (5 : Int32)) C0 dX9_waysAt_5 (by decide) ?_
        refine z_icmp_lt C0 11 dX9_waysAt_6 (by decide) (fun c4 => ?_) (fun c4 => ?_)
        · exact absurd ⟨c1, c4⟩ hc20
        · exact k22
def f_X3_board_L6 (a0 : Nat) (a1 : Nat) (v2 : Int32) (v3 : Int32) : Nat → Int32 → Int32 → zM → Option (Int32 × zM)
  | 0, _, _, _ => none
  | n + 1, y3, y4, μ5 =>
    if (¬ ((μ5 (a0 + 8) 2) ≤ y4)) ∧ (¬ ((5 : Int32) ≤ y4)) then
      zbd2 (zbd (if v3 = 0 then
            some false
          else
            zbd (f_X6_number (a0 + 8) y4 (2 : Int32) μ5) fun r15 =>
            if ¬ r15 = v2 then
              some false
            else
              some true) fun b17 =>
        if b17 = true then
          zl (if ¬ v3 = (1 : Int32) then
              ((f_X1_lines a0 (0 : Int32) μ5) - (1 : Int32))
            else
              (0 : Int32)) fun x21 =>
          zg (zin y4 5) <|
          zl (zup μ5 (a1 + 1) (y4.toNatClampNeg) x21) fun μ23 =>
          zbd (f_X6_number (a0 + 8) y4 (1 : Int32) μ23) fun r24 =>
          zl (y3 + r24) fun x25 =>
          some (x25, μ23)
        else
          some (y3, μ5)) fun x26 μ27 =>
      zl (y4 + (1 : Int32)) fun x28 =>
      f_X3_board_L6 a0 a1 v2 v3 n x26 x28 μ27
    else
      some (y3, μ5)
def f_X3_board (a0 : Nat) (a1 : Nat) (v2 : Int32) (v3 : Int32) (μ : zM) : Option (Int32 × zM) :=
  zbd2 (f_X3_board_L6 a0 a1 v2 v3 zFU (0 : Int32) (0 : Int32) μ) fun x29 μ30 =>
  some (x29, μ30)
set_option maxHeartbeats 4000000 in
set_option maxRecDepth 100000 in
theorem r_X3_board_L6 {l : Launch} {g : zL} {p : Program} {e : Env} {s : State} {m : MethodId} {args : Array Value} {below : List Frame} {meth : Method} {c : Code} {Q : State → Prop} (C0 : zC p s m args meth c g cX3_board yX3_board 6 (some (.int))) (a0 : Nat) (a1 : Nat) (v2 : Int32) (v3 : Int32) (hU1 : zT zNN zσ1 a0 1) (hU2 : zT zNN zσ1 a1 4) : ∀ (n : Nat) (y3 : Int32) (y4 : Int32) (μ5 : zM) (x29 : Int32) (μ30 : zM), f_X3_board_L6 a0 a1 v2 v3 n y3 y4 μ5 = some (x29, μ30) → Z p l e (zrm 1 0 0) s m args below meth c g Q 6 zNN 0 0 zσ1 μ30 90 [(4, .int x29)] [] → Z p l e (zrm 1 0 0) s m args below meth c g Q 6 zNN 0 0 zσ1 μ5 6 [(0, .ref (zb g + a0)), (1, .ref (zb g + a1)), (2, .int v2), (3, .int v3), (4, .int y3), (5, .int y4)] [] := by
  intro n
  induction n with
  | zero =>
    intro y3 y4 μ5 x29 μ30 h kx
    rw [f_X3_board_L6] at h
    cases h
  | succ n ih =>
    intro y3 y4 μ5 x29 μ30 h kx
    rw [f_X3_board_L6] at h
    refine z_iload C0 dX3_board_6 5 rfl ?_
    refine z_aload_n C0 dX3_board_8 rfl 0 rfl ?_
    refine z_getr C0 hU1 kf_3_32 zr_1_4 zx_1 (zs_1_4 hU1).1 dX3_board_9 ?_
    refine z_geti C0 (zs_1_4 hU1).2.1 (zs_1_4 hU1).2.2.2.1 kf_3_38 zr_6_2 dX3_board_12 ?_
    by_cases hc31 : (¬ ((μ5 (a0 + 8) 2) ≤ y4)) ∧ (¬ ((5 : Int32) ≤ y4))
    · have h := zif_t hc31 h
      refine z_join μ5 28 [(0, .ref (zb g + a0)), (1, .ref (zb g + a1)), (2, .int v2), (3, .int v3), (4, .int y3), (5, .int y4)] [] ?_ (fun k32 => ?_)
      · refine z_iload_n C0 dX3_board_28 rfl 3 rfl ?_
        obtain ⟨x26, μ27, e_x26, h⟩ := zbd2_of h
        refine z_join μ27 84 [(0, .ref (zb g + a0)), (1, .ref (zb g + a1)), (2, .int v2), (3, .int v3), (4, .int x26), (5, .int y4)] [] ?_ (fun k_J18 => ?_)
        · obtain ⟨x28, e_x28, h⟩ := zl_of h
          refine z_iinc (lo1 := [(5, .int x28), (0, .ref (zb g + a0)), (1, .ref (zb g + a1)), (2, .int v2), (3, .int v3), (4, .int x26)]) C0 dX3_board_84 5 rfl (by decide) e_x28.symm (by decide) rfl ?_
          refine z_goto C0 6 dX3_board_87 (by decide) ?_
          refine z_sub (lo1 := [(0, .ref (zb g + a0)), (1, .ref (zb g + a1)), (2, .int v2), (3, .int v3), (4, .int x26), (5, .int x28)]) [1, 2, 3, 4, 5, 0] rfl ?_
          exact ih _ _ _ _ _ h kx
        · have h := e_x26
          obtain ⟨b17, e_b17, h⟩ := zbd_of h
          refine z_joinb b17 μ5 46 84 [(0, .ref (zb g + a0)), (1, .ref (zb g + a1)), (2, .int v2), (3, .int v3), (4, .int y3), (5, .int y4)] [] (fun z35 => ?_) (fun z35 => ?_) (fun k33 k34 => ?_)
          · have h := zif_t z35 h
            refine z_aload_n C0 dX3_board_46 rfl 1 rfl ?_
            refine z_getr C0 hU2 kf_3_43 zr_4_12 zx_4 (zs_4_12 hU2).1 dX3_board_47 ?_
            refine z_iload C0 dX3_board_50 5 rfl ?_
            refine z_iload_n C0 dX3_board_52 rfl 3 rfl ?_
            refine z_iconst (v := (1 : Int32)) C0 dX3_board_53 (by decide) ?_
            obtain ⟨x21, e_x21, h⟩ := zl_of h
            refine z_join μ5 68 [(0, .ref (zb g + a0)), (1, .ref (zb g + a1)), (2, .int v2), (3, .int v3), (4, .int y3), (5, .int y4)] [.int x21, .int y4, .ref (zb g + (a1 + 1))] ?_ (fun k_J20 => ?_)
            · obtain ⟨g22, h⟩ := zg_of h
              obtain ⟨μ23, e_μ23, h⟩ := zl_of h
              refine z_iast C0 (zs_4_12 hU2).2 g22 rfl e_μ23 dX3_board_68 ?_
              refine z_iload C0 dX3_board_69 4 rfl ?_
              refine z_aload_n C0 dX3_board_71 rfl 0 rfl ?_
              refine z_getr C0 hU1 kf_3_32 zr_1_4 zx_1 (zs_1_4 hU1).1 dX3_board_72 ?_
              refine z_iload C0 dX3_board_75 5 rfl ?_
              refine z_iconst (v := (1 : Int32)) C0 dX3_board_77 (by decide) ?_
              obtain ⟨r24, e_r24, h⟩ := zbd_of h
              refine z_callV (As := [.int y4, .int (1 : Int32)]) (rest := [.int y3]) C0 rfl kc_X6_number km_RX3_46 (r_X6_number (l := l) (g := g) (a0 + 8) y4 (1 : Int32) μ23 (zs_1_4 hU1).2 e_r24) (zs_1_4 hU1).2.1 (zs_1_4 hU1).2.2.2.1 rfl (by decide) rfl (Nat.le_of_ble_eq_true rfl) (Nat.le_of_ble_eq_true rfl) (Nat.le_of_ble_eq_true rfl) (Nat.le_of_ble_eq_true rfl) (Nat.le_refl _) rfl rfl dX3_board_78 ?_
              refine z_iadd C0 dX3_board_81 ?_
              obtain ⟨x25, e_x25, h⟩ := zl_of h
              refine z_nm e_x25 ?_
              refine z_istore (lo1 := [(4, .int x25), (0, .ref (zb g + a0)), (1, .ref (zb g + a1)), (2, .int v2), (3, .int v3), (5, .int y4)]) C0 dX3_board_82 (by decide) rfl ?_
              refine z_sub (lo1 := [(0, .ref (zb g + a0)), (1, .ref (zb g + a1)), (2, .int v2), (3, .int v3), (4, .int x25), (5, .int y4)]) [1, 2, 3, 4, 0, 5] rfl ?_
              obtain ⟨rfl, rfl⟩ := Prod.mk.inj (Option.some.inj h)
              exact k_J18
            · have h := e_x21.symm
              refine z_icmp_ne C0 61 dX3_board_54 (by decide) (fun c19 => ?_) (fun c19 => ?_)
              · have h := zif_t c19 h
                refine z_aload_n C0 dX3_board_61 rfl 0 rfl ?_
                refine z_iconst (v := (0 : Int32)) C0 dX3_board_62 (by decide) ?_
                refine z_callV (As := [.int (0 : Int32)]) (rest := [.int y4, .ref (zb g + (a1 + 1))]) C0 rfl kc_X1_lines km_RX3_50 (r_X1_lines (l := l) (g := g) a0 (0 : Int32) μ5 hU1 rfl) hU1.1 hU1.2.2.1 rfl (by decide) rfl (Nat.le_of_ble_eq_true rfl) (Nat.le_of_ble_eq_true rfl) (Nat.le_of_ble_eq_true rfl) (Nat.le_of_ble_eq_true rfl) (Nat.le_refl _) rfl rfl dX3_board_63 ?_
                refine z_iconst (v := (1 : Int32)) C0 dX3_board_66 (by decide) ?_
                refine z_isub C0 dX3_board_67 ?_
                obtain rfl := h
                exact k_J20
              · have h := zif_f (fun q => q c19) h
                refine z_iconst (v := (0 : Int32)) C0 dX3_board_57 (by decide) ?_
                refine z_goto C0 68 dX3_board_58 (by decide) ?_
                obtain rfl := h
                exact k_J20
          · have h := zif_f (fun q => Bool.noConfusion (z35.symm.trans q)) h
            obtain ⟨rfl, rfl⟩ := Prod.mk.inj (Option.some.inj h)
            exact k_J18
          · have h := e_b17
            refine z_if_eq C0 84 dX3_board_29 (by decide) (fun c13 => ?_) (fun c13 => ?_)
            · have h := zif_t c13 h
              exact k34 (Option.some.inj h).symm
            · have h := zif_f c13 h
              refine z_aload_n C0 dX3_board_32 rfl 0 rfl ?_
              refine z_getr C0 hU1 kf_3_32 zr_1_4 zx_1 (zs_1_4 hU1).1 dX3_board_33 ?_
              refine z_iload C0 dX3_board_36 5 rfl ?_
              refine z_iconst (v := (2 : Int32)) C0 dX3_board_38 (by decide) ?_
              obtain ⟨r15, e_r15, h⟩ := zbd_of h
              refine z_callV (As := [.int y4, .int (2 : Int32)]) (rest := []) C0 rfl kc_X6_number km_RX3_46 (r_X6_number (l := l) (g := g) (a0 + 8) y4 (2 : Int32) μ5 (zs_1_4 hU1).2 e_r15) (zs_1_4 hU1).2.1 (zs_1_4 hU1).2.2.2.1 rfl (by decide) rfl (Nat.le_of_ble_eq_true rfl) (Nat.le_of_ble_eq_true rfl) (Nat.le_of_ble_eq_true rfl) (Nat.le_of_ble_eq_true rfl) (Nat.le_refl _) rfl rfl dX3_board_39 ?_
              refine z_iload_n C0 dX3_board_42 rfl 2 rfl ?_
              refine z_icmp_ne C0 84 dX3_board_43 (by decide) (fun c16 => ?_) (fun c16 => ?_)
              · have h := zif_t c16 h
                exact k34 (Option.some.inj h).symm
              · have h := zif_f (fun q => q c16) h
                exact k33 (Option.some.inj h).symm
      · refine z_icmp_ge C0 90 dX3_board_15 (by decide) (fun c6 => ?_) (fun c6 => ?_)
        · exact absurd hc31 (fun q => q.1 c6)
        · refine z_iload C0 dX3_board_18 5 rfl ?_
          refine z_aload_n C0 dX3_board_20 rfl 1 rfl ?_
          refine z_getr C0 hU2 kf_3_43 zr_4_12 zx_4 (zs_4_12 hU2).1 dX3_board_21 ?_
          refine z_alen (v := (5 : Int32)) C0 (zs_4_12 hU2).2 (by decide) (by decide) (by decide) dX3_board_24 ?_
          refine z_icmp_ge C0 90 dX3_board_25 (by decide) (fun c12 => ?_) (fun c12 => ?_)
          · exact absurd hc31 (fun q => (fun q => q c12) q.2)
          · exact k32
    · have h := zif_f hc31 h
      refine z_join μ5 90 [(0, .ref (zb g + a0)), (1, .ref (zb g + a1)), (2, .int v2), (3, .int v3), (4, .int y3), (5, .int y4)] [] ?_ (fun k36 => ?_)
      · refine z_sub (lo1 := [(4, .int y3)]) [4] rfl ?_
        obtain ⟨rfl, rfl⟩ := Prod.mk.inj (Option.some.inj h)
        exact kx
      · refine z_icmp_ge C0 90 dX3_board_15 (by decide) (fun c6 => ?_) (fun c6 => ?_)
        · exact k36
        · refine z_iload C0 dX3_board_18 5 rfl ?_
          refine z_aload_n C0 dX3_board_20 rfl 1 rfl ?_
          refine z_getr C0 hU2 kf_3_43 zr_4_12 zx_4 (zs_4_12 hU2).1 dX3_board_21 ?_
          refine z_alen (v := (5 : Int32)) C0 (zs_4_12 hU2).2 (by decide) (by decide) (by decide) dX3_board_24 ?_
          refine z_icmp_ge C0 90 dX3_board_25 (by decide) (fun c12 => ?_) (fun c12 => ?_)
          · exact k36
          · exact absurd ⟨c6, c12⟩ hc31
set_option maxHeartbeats 4000000 in
set_option maxRecDepth 100000 in
theorem r_X3_board {l : Launch} {g : zL} (a0 : Nat) (a1 : Nat) (v2 : Int32) (v3 : Int32) (μ : zM) (hT0 : zT zNN zσ1 a0 1) (hT1 : zT zNN zσ1 a1 4) {rv : Int32} {μr : zM} (h : f_X3_board a0 a1 v2 v3 μ = some (rv, μr)) : zMet l g yX3_board cX3_board 6 (some (.int)) 1 0 0 zNN zNN zσ1 zσ1 [.ref (zb g + a0), .ref (zb g + a1), .int v2, .int v3] μ (some (.int rv)) μr := by
  refine zMet.of (by decide +kernel) (Nat.le_of_ble_eq_true rfl) ?_
  intro p e s m args below meth c C0
  refine z_loc (lo1 := [(0, .ref (zb g + a0)), (1, .ref (zb g + a1)), (2, .int v2), (3, .int v3)]) rfl ?_
  unfold f_X3_board at h
  refine z_iconst (v := (0 : Int32)) C0 dX3_board_0 (by decide) ?_
  refine z_istore (lo1 := [(4, .int (0 : Int32)), (0, .ref (zb g + a0)), (1, .ref (zb g + a1)), (2, .int v2), (3, .int v3)]) C0 dX3_board_1 (by decide) rfl ?_
  refine z_iconst (v := (0 : Int32)) C0 dX3_board_3 (by decide) ?_
  refine z_istore (lo1 := [(5, .int (0 : Int32)), (4, .int (0 : Int32)), (0, .ref (zb g + a0)), (1, .ref (zb g + a1)), (2, .int v2), (3, .int v3)]) C0 dX3_board_4 (by decide) rfl ?_
  refine z_sub (lo1 := [(0, .ref (zb g + a0)), (1, .ref (zb g + a1)), (2, .int v2), (3, .int v3), (4, .int (0 : Int32)), (5, .int (0 : Int32))]) [2, 3, 4, 5, 1, 0] rfl ?_
  obtain ⟨x29, μ30, e_x29, h⟩ := zbd2_of h
  refine r_X3_board_L6 C0 a0 a1 v2 v3 hT0 hT1 zFU (0 : Int32) (0 : Int32) μ x29 μ30 e_x29 ?_
  refine z_iload C0 dX3_board_90 0 rfl ?_
  have h := Option.some.inj h
  obtain ⟨rfl, rfl⟩ := Prod.mk.inj h
  exact z_iret C0 rfl dX3_board_92
def f_X3_hear_L49 (a0 : Nat) (a1 : Nat) (v2 : Int32) (a3 : Nat) (y4 : Int32) (x8 : Int32) (r9 : Int32) (r11 : Int32) : Nat → Int32 → zM → Option (zM)
  | 0, _, _ => none
  | n + 1, y16, μ17 =>
    if v2 ≤ y16 then
      some μ17
    else
      zbd (f_X4_floatOn a3 μ17) fun μ19 =>
      zl (y16 + (1 : Int32)) fun x20 =>
      f_X3_hear_L49 a0 a1 v2 a3 y4 x8 r9 r11 n x20 μ19
def f_X3_hear_L3 (a0 : Nat) (a1 : Nat) (v2 : Int32) (a3 : Nat) : Nat → Int32 → zM → Option (zM)
  | 0, _, _ => none
  | n + 1, y4, μ5 =>
    if (9 : Int32) ≤ y4 then
      some μ5
    else
      zbd (f_X4_launch a3 a1 a1 μ5) fun μ7 =>
      zl (μ7 a3 2) fun x8 =>
      zbd2 (f_X3_board a1 a3 (0 : Int32) (y4 / (3 : Int32)) μ7) fun r9 μ10 =>
      zbd2 (f_X3_board a1 a3 (1 : Int32) (y4 % (3 : Int32)) μ10) fun r11 μ12 =>
      zbd (f_X3_hear_L49 a0 a1 v2 a3 y4 x8 r9 r11 zFU (0 : Int32) μ12) fun μ21 =>
      zg (zin (y4 * (2 : Int32)) 18) <|
      zl (zup μ21 (a0 + 1) ((y4 * (2 : Int32)).toNatClampNeg) (((10 : Int32) * (x8 - (μ21 a3 2))) - (v2 * r9))) fun μ23 =>
      zg (zin ((y4 * (2 : Int32)) + (1 : Int32)) 18) <|
      zl (zup μ23 (a0 + 1) (((y4 * (2 : Int32)) + (1 : Int32)).toNatClampNeg) (((10 : Int32) * ((μ23 a3 2) - x8)) - (v2 * r11))) fun μ25 =>
      zl (y4 + (1 : Int32)) fun x26 =>
      f_X3_hear_L3 a0 a1 v2 a3 n x26 μ25
def f_X3_hear (a0 : Nat) (a1 : Nat) (v2 : Int32) (a3 : Nat) (μ : zM) : Option (zM) :=
  zbd (f_X3_hear_L3 a0 a1 v2 a3 zFU (0 : Int32) μ) fun μ27 =>
  some μ27
set_option maxHeartbeats 4000000 in
set_option maxRecDepth 100000 in
theorem r_X3_hear_L49 {l : Launch} {g : zL} {p : Program} {e : Env} {s : State} {m : MethodId} {args : Array Value} {below : List Frame} {meth : Method} {c : Code} {Q : State → Prop} (C0 : zC p s m args meth c g cX3_hear yX3_hear 9 none) (a0 : Nat) (a1 : Nat) (v2 : Int32) (a3 : Nat) (y4 : Int32) (x8 : Int32) (r9 : Int32) (r11 : Int32) (hU13 : zT zNN zσ1 a0 3) (hU14 : zT zNN zσ1 a1 1) (hU15 : zT zNN zσ1 a3 4) : ∀ (n : Nat) (y16 : Int32) (μ17 : zM) (μ21 : zM), f_X3_hear_L49 a0 a1 v2 a3 y4 x8 r9 r11 n y16 μ17 = some μ21 → Z p l e (zrm 4 0 0) s m args below meth c g Q 9 zNN 0 0 zσ1 μ21 65 [(0, .ref (zb g + a0)), (1, .ref (zb g + a1)), (2, .int v2), (3, .ref (zb g + a3)), (4, .int y4), (5, .int x8), (6, .int r9), (7, .int r11)] [] → Z p l e (zrm 4 0 0) s m args below meth c g Q 9 zNN 0 0 zσ1 μ17 49 [(0, .ref (zb g + a0)), (1, .ref (zb g + a1)), (2, .int v2), (3, .ref (zb g + a3)), (4, .int y4), (5, .int x8), (6, .int r9), (7, .int r11), (8, .int y16)] [] := by
  intro n
  induction n with
  | zero =>
    intro y16 μ17 μ21 h kx
    rw [f_X3_hear_L49] at h
    cases h
  | succ n ih =>
    intro y16 μ17 μ21 h kx
    rw [f_X3_hear_L49] at h
    refine z_iload C0 dX3_hear_49 8 rfl ?_
    refine z_iload_n C0 dX3_hear_51 rfl 2 rfl ?_
    refine z_icmp_ge C0 65 dX3_hear_52 (by decide) (fun c18 => ?_) (fun c18 => ?_)
    · have h := zif_t c18 h
      refine z_sub (lo1 := [(0, .ref (zb g + a0)), (1, .ref (zb g + a1)), (2, .int v2), (3, .ref (zb g + a3)), (4, .int y4), (5, .int x8), (6, .int r9), (7, .int r11)]) [0, 1, 2, 3, 4, 5, 6, 7] rfl ?_
      obtain rfl := (Option.some.inj h)
      exact kx
    · have h := zif_f c18 h
      refine z_aload_n C0 dX3_hear_55 rfl 3 rfl ?_
      obtain ⟨μ19, e_μ19, h⟩ := zbd_of h
      refine z_callV (As := []) (rest := []) C0 rfl kc_X4_floatOn km_RX3_29 (r_X4_floatOn (l := l) (g := g) a3 μ17 hU15 e_μ19) hU15.1 hU15.2.2.1 rfl (by decide) rfl (Nat.le_of_ble_eq_true rfl) (Nat.le_of_ble_eq_true rfl) (Nat.le_of_ble_eq_true rfl) (Nat.le_of_ble_eq_true rfl) (Nat.le_refl _) rfl rfl dX3_hear_56 ?_
      obtain ⟨x20, e_x20, h⟩ := zl_of h
      refine z_iinc (lo1 := [(8, .int x20), (0, .ref (zb g + a0)), (1, .ref (zb g + a1)), (2, .int v2), (3, .ref (zb g + a3)), (4, .int y4), (5, .int x8), (6, .int r9), (7, .int r11)]) C0 dX3_hear_59 8 rfl (by decide) e_x20.symm (by decide) rfl ?_
      refine z_goto C0 49 dX3_hear_62 (by decide) ?_
      refine z_sub (lo1 := [(0, .ref (zb g + a0)), (1, .ref (zb g + a1)), (2, .int v2), (3, .ref (zb g + a3)), (4, .int y4), (5, .int x8), (6, .int r9), (7, .int r11), (8, .int x20)]) [1, 2, 3, 4, 5, 6, 7, 8, 0] rfl ?_
      exact ih _ _ _ h kx
set_option maxHeartbeats 4000000 in
set_option maxRecDepth 100000 in
theorem r_X3_hear_L3 {l : Launch} {g : zL} {p : Program} {e : Env} {s : State} {m : MethodId} {args : Array Value} {below : List Frame} {meth : Method} {c : Code} {Q : State → Prop} (C0 : zC p s m args meth c g cX3_hear yX3_hear 9 none) (a0 : Nat) (a1 : Nat) (v2 : Int32) (a3 : Nat) (hU1 : zT zNN zσ1 a0 3) (hU2 : zT zNN zσ1 a1 1) (hU3 : zT zNN zσ1 a3 4) : ∀ (n : Nat) (y4 : Int32) (μ5 : zM) (μ27 : zM), f_X3_hear_L3 a0 a1 v2 a3 n y4 μ5 = some μ27 → Z p l e (zrm 4 0 0) s m args below meth c g Q 9 zNN 0 0 zσ1 μ27 121 [] [] → Z p l e (zrm 4 0 0) s m args below meth c g Q 9 zNN 0 0 zσ1 μ5 3 [(0, .ref (zb g + a0)), (1, .ref (zb g + a1)), (2, .int v2), (3, .ref (zb g + a3)), (4, .int y4)] [] := by
  intro n
  induction n with
  | zero =>
    intro y4 μ5 μ27 h kx
    rw [f_X3_hear_L3] at h
    cases h
  | succ n ih =>
    intro y4 μ5 μ27 h kx
    rw [f_X3_hear_L3] at h
    refine z_iload C0 dX3_hear_3 4 rfl ?_
    refine z_bipush (v := (9 : Int32)) C0 dX3_hear_5 (by decide) ?_
    refine z_icmp_ge C0 121 dX3_hear_7 (by decide) (fun c6 => ?_) (fun c6 => ?_)
    · have h := zif_t c6 h
      refine z_sub (lo1 := []) [] rfl ?_
      obtain rfl := (Option.some.inj h)
      exact kx
    · have h := zif_f c6 h
      refine z_aload_n C0 dX3_hear_10 rfl 3 rfl ?_
      refine z_aload_n C0 dX3_hear_11 rfl 1 rfl ?_
      refine z_aload_n C0 dX3_hear_12 rfl 1 rfl ?_
      obtain ⟨μ7, e_μ7, h⟩ := zbd_of h
      refine z_callV (As := [.ref (zb g + a1), .ref (zb g + a1)]) (rest := []) C0 rfl kc_X4_launch km_RX3_15 (r_X4_launch (l := l) (g := g) a3 a1 a1 μ5 hU3 hU2 hU2 e_μ7) hU3.1 hU3.2.2.1 rfl (by decide) rfl (Nat.le_of_ble_eq_true rfl) (Nat.le_of_ble_eq_true rfl) (Nat.le_of_ble_eq_true rfl) (Nat.le_of_ble_eq_true rfl) (Nat.le_refl _) rfl rfl dX3_hear_13 ?_
      refine z_aload_n C0 dX3_hear_16 rfl 3 rfl ?_
      refine z_geti C0 hU3.1 hU3.2.2.1 kf_3_21 zr_4_2 dX3_hear_17 ?_
      obtain ⟨x8, e_x8, h⟩ := zl_of h
      refine z_nm e_x8 ?_
      refine z_istore (lo1 := [(5, .int x8), (0, .ref (zb g + a0)), (1, .ref (zb g + a1)), (2, .int v2), (3, .ref (zb g + a3)), (4, .int y4)]) C0 dX3_hear_20 (by decide) rfl ?_
      refine z_aload_n C0 dX3_hear_22 rfl 2 rfl ?_
      refine z_aload_n C0 dX3_hear_23 rfl 4 rfl ?_
      refine z_iconst (v := (0 : Int32)) C0 dX3_hear_24 (by decide) ?_
      refine z_iload C0 dX3_hear_25 5 rfl ?_
      refine z_iconst (v := (3 : Int32)) C0 dX3_hear_27 (by decide) ?_
      refine z_idiv C0 dX3_hear_28 (by decide) ?_
      obtain ⟨r9, μ10, e_r9, h⟩ := zbd2_of h
      refine z_callS (As := [.ref (zb g + a1), .ref (zb g + a3), .int (0 : Int32), .int (y4 / (3 : Int32))]) (rest := []) C0 rfl kc_X3_board km_RX3_25 (r_X3_board (l := l) (g := g) a1 a3 (0 : Int32) (y4 / (3 : Int32)) μ7 hU2 hU3 e_r9) rfl (Nat.le_of_ble_eq_true rfl) (Nat.le_of_ble_eq_true rfl) (Nat.le_of_ble_eq_true rfl) (Nat.le_of_ble_eq_true rfl) (Nat.le_refl _) rfl rfl dX3_hear_29 ?_
      refine z_istore (lo1 := [(6, .int r9), (5, .int x8), (0, .ref (zb g + a0)), (1, .ref (zb g + a1)), (2, .int v2), (3, .ref (zb g + a3)), (4, .int y4)]) C0 dX3_hear_32 (by decide) rfl ?_
      refine z_aload_n C0 dX3_hear_34 rfl 3 rfl ?_
      refine z_aload_n C0 dX3_hear_35 rfl 5 rfl ?_
      refine z_iconst (v := (1 : Int32)) C0 dX3_hear_36 (by decide) ?_
      refine z_iload C0 dX3_hear_37 6 rfl ?_
      refine z_iconst (v := (3 : Int32)) C0 dX3_hear_39 (by decide) ?_
      refine z_irem C0 dX3_hear_40 (by decide) ?_
      obtain ⟨r11, μ12, e_r11, h⟩ := zbd2_of h
      refine z_callS (As := [.ref (zb g + a1), .ref (zb g + a3), .int (1 : Int32), .int (y4 % (3 : Int32))]) (rest := []) C0 rfl kc_X3_board km_RX3_25 (r_X3_board (l := l) (g := g) a1 a3 (1 : Int32) (y4 % (3 : Int32)) μ10 hU2 hU3 e_r11) rfl (Nat.le_of_ble_eq_true rfl) (Nat.le_of_ble_eq_true rfl) (Nat.le_of_ble_eq_true rfl) (Nat.le_of_ble_eq_true rfl) (Nat.le_refl _) rfl rfl dX3_hear_41 ?_
      refine z_istore (lo1 := [(7, .int r11), (6, .int r9), (5, .int x8), (0, .ref (zb g + a0)), (1, .ref (zb g + a1)), (2, .int v2), (3, .ref (zb g + a3)), (4, .int y4)]) C0 dX3_hear_44 (by decide) rfl ?_
      refine z_iconst (v := (0 : Int32)) C0 dX3_hear_46 (by decide) ?_
      refine z_istore (lo1 := [(8, .int (0 : Int32)), (7, .int r11), (6, .int r9), (5, .int x8), (0, .ref (zb g + a0)), (1, .ref (zb g + a1)), (2, .int v2), (3, .ref (zb g + a3)), (4, .int y4)]) C0 dX3_hear_47 (by decide) rfl ?_
      refine z_sub (lo1 := [(0, .ref (zb g + a0)), (1, .ref (zb g + a1)), (2, .int v2), (3, .ref (zb g + a3)), (4, .int y4), (5, .int x8), (6, .int r9), (7, .int r11), (8, .int (0 : Int32))]) [4, 5, 6, 7, 8, 3, 2, 1, 0] rfl ?_
      obtain ⟨μ21, e_μ21, h⟩ := zbd_of h
      refine r_X3_hear_L49 C0 a0 a1 v2 a3 y4 x8 r9 r11 hU1 hU2 hU3 zFU (0 : Int32) μ12 μ21 e_μ21 ?_
      refine z_aload_n C0 dX3_hear_65 rfl 0 rfl ?_
      refine z_getr C0 hU1 kf_3_11 zr_3_0 zx_3 (zs_3_0 hU1).1 dX3_hear_66 ?_
      refine z_iload C0 dX3_hear_69 4 rfl ?_
      refine z_iconst (v := (2 : Int32)) C0 dX3_hear_71 (by decide) ?_
      refine z_imul C0 dX3_hear_72 ?_
      refine z_bipush (v := (10 : Int32)) C0 dX3_hear_73 (by decide) ?_
      refine z_iload C0 dX3_hear_75 5 rfl ?_
      refine z_aload_n C0 dX3_hear_77 rfl 3 rfl ?_
      refine z_geti C0 hU3.1 hU3.2.2.1 kf_3_21 zr_4_2 dX3_hear_78 ?_
      refine z_isub C0 dX3_hear_81 ?_
      refine z_imul C0 dX3_hear_82 ?_
      refine z_iload_n C0 dX3_hear_83 rfl 2 rfl ?_
      refine z_iload C0 dX3_hear_84 6 rfl ?_
      refine z_imul C0 dX3_hear_86 ?_
      refine z_isub C0 dX3_hear_87 ?_
      obtain ⟨g22, h⟩ := zg_of h
      obtain ⟨μ23, e_μ23, h⟩ := zl_of h
      refine z_iast C0 (zs_3_0 hU1).2 g22 rfl e_μ23 dX3_hear_88 ?_
      refine z_aload_n C0 dX3_hear_89 rfl 0 rfl ?_
      refine z_getr C0 hU1 kf_3_11 zr_3_0 zx_3 (zs_3_0 hU1).1 dX3_hear_90 ?_
      refine z_iload C0 dX3_hear_93 4 rfl ?_
      refine z_iconst (v := (2 : Int32)) C0 dX3_hear_95 (by decide) ?_
      refine z_imul C0 dX3_hear_96 ?_
      refine z_iconst (v := (1 : Int32)) C0 dX3_hear_97 (by decide) ?_
      refine z_iadd C0 dX3_hear_98 ?_
      refine z_bipush (v := (10 : Int32)) C0 dX3_hear_99 (by decide) ?_
      refine z_aload_n C0 dX3_hear_101 rfl 3 rfl ?_
      refine z_geti C0 hU3.1 hU3.2.2.1 kf_3_21 zr_4_2 dX3_hear_102 ?_
      refine z_iload C0 dX3_hear_105 5 rfl ?_
      refine z_isub C0 dX3_hear_107 ?_
      refine z_imul C0 dX3_hear_108 ?_
      refine z_iload_n C0 dX3_hear_109 rfl 2 rfl ?_
      refine z_iload C0 dX3_hear_110 7 rfl ?_
      refine z_imul C0 dX3_hear_112 ?_
      refine z_isub C0 dX3_hear_113 ?_
      obtain ⟨g24, h⟩ := zg_of h
      obtain ⟨μ25, e_μ25, h⟩ := zl_of h
      refine z_iast C0 (zs_3_0 hU1).2 g24 rfl e_μ25 dX3_hear_114 ?_
      obtain ⟨x26, e_x26, h⟩ := zl_of h
      refine z_iinc (lo1 := [(4, .int x26), (0, .ref (zb g + a0)), (1, .ref (zb g + a1)), (2, .int v2), (3, .ref (zb g + a3)), (5, .int x8), (6, .int r9), (7, .int r11)]) C0 dX3_hear_115 4 rfl (by decide) e_x26.symm (by decide) rfl ?_
      refine z_goto C0 3 dX3_hear_118 (by decide) ?_
      refine z_sub (lo1 := [(0, .ref (zb g + a0)), (1, .ref (zb g + a1)), (2, .int v2), (3, .ref (zb g + a3)), (4, .int x26)]) [1, 2, 3, 4, 0] rfl ?_
      exact ih _ _ _ h kx
set_option maxHeartbeats 4000000 in
set_option maxRecDepth 100000 in
theorem r_X3_hear {l : Launch} {g : zL} (a0 : Nat) (a1 : Nat) (v2 : Int32) (a3 : Nat) (μ : zM) (hT0 : zT zNN zσ1 a0 3) (hT1 : zT zNN zσ1 a1 1) (hT3 : zT zNN zσ1 a3 4) {μr : zM} (h : f_X3_hear a0 a1 v2 a3 μ = some μr) : zMet l g yX3_hear cX3_hear 9 none 4 0 0 zNN zNN zσ1 zσ1 [.ref (zb g + a0), .ref (zb g + a1), .int v2, .ref (zb g + a3)] μ none μr := by
  refine zMet.of (by decide +kernel) (Nat.le_of_ble_eq_true rfl) ?_
  intro p e s m args below meth c C0
  refine z_loc (lo1 := [(0, .ref (zb g + a0)), (1, .ref (zb g + a1)), (2, .int v2), (3, .ref (zb g + a3))]) rfl ?_
  unfold f_X3_hear at h
  refine z_iconst (v := (0 : Int32)) C0 dX3_hear_0 (by decide) ?_
  refine z_istore (lo1 := [(4, .int (0 : Int32)), (0, .ref (zb g + a0)), (1, .ref (zb g + a1)), (2, .int v2), (3, .ref (zb g + a3))]) C0 dX3_hear_1 (by decide) rfl ?_
  refine z_sub (lo1 := [(0, .ref (zb g + a0)), (1, .ref (zb g + a1)), (2, .int v2), (3, .ref (zb g + a3)), (4, .int (0 : Int32))]) [1, 2, 3, 4, 0] rfl ?_
  obtain ⟨μ27, e_μ27, h⟩ := zbd_of h
  refine r_X3_hear_L3 C0 a0 a1 v2 a3 hT0 hT1 hT3 zFU (0 : Int32) μ μ27 e_μ27 ?_
  have h := Option.some.inj h
  obtain rfl := h
  exact z_vret C0 rfl dX3_hear_121
def f_X3_gainOf (a0 : Nat) (v1 : Int32) (v2 : Int32) (μ : zM) : Option (Int32) :=
  zg (zin ((v1 * (2 : Int32)) + v2) 18) <|
  some (μ (a0 + 1) (((v1 * (2 : Int32)) + v2).toNatClampNeg))
set_option maxHeartbeats 4000000 in
set_option maxRecDepth 100000 in
theorem r_X3_gainOf {l : Launch} {g : zL} (a0 : Nat) (v1 : Int32) (v2 : Int32) (μ : zM) (hT0 : zT zNN zσ1 a0 3) {rv : Int32} (h : f_X3_gainOf a0 v1 v2 μ = some rv) : zMet l g yX3_gainOf cX3_gainOf 3 (some (.int)) 0 0 0 zNN zNN zσ1 zσ1 [.ref (zb g + a0), .int v1, .int v2] μ (some (.int rv)) μ := by
  refine zMet.of (by decide +kernel) (Nat.le_of_ble_eq_true rfl) ?_
  intro p e s m args below meth c C0
  refine z_loc (lo1 := [(0, .ref (zb g + a0)), (1, .int v1), (2, .int v2)]) rfl ?_
  unfold f_X3_gainOf at h
  refine z_aload_n C0 dX3_gainOf_0 rfl 0 rfl ?_
  refine z_getr C0 hT0 kf_3_11 zr_3_0 zx_3 (zs_3_0 hT0).1 dX3_gainOf_1 ?_
  refine z_iload_n C0 dX3_gainOf_4 rfl 1 rfl ?_
  refine z_iconst (v := (2 : Int32)) C0 dX3_gainOf_5 (by decide) ?_
  refine z_imul C0 dX3_gainOf_6 ?_
  refine z_iload_n C0 dX3_gainOf_7 rfl 2 rfl ?_
  refine z_iadd C0 dX3_gainOf_8 ?_
  obtain ⟨g1, h⟩ := zg_of h
  refine z_iald C0 (zs_3_0 hT0).2 g1 rfl dX3_gainOf_9 ?_
  have h := Option.some.inj h
  obtain rfl := h
  exact z_iret C0 rfl dX3_gainOf_10
def f_X7_setsOf (a0 : Nat) (μ : zM) : Int32 :=
  ((1 : Int32) <<< ((zmin (μ a0 2) (8 : Int32)) &&& 31))
set_option maxHeartbeats 4000000 in
set_option maxRecDepth 100000 in
theorem r_X7_setsOf {l : Launch} {g : zL} (a0 : Nat) (μ : zM) (hT0 : zT zNN zσ1 a0 6) {rv : Int32} (h : f_X7_setsOf a0 μ = rv) : zMet l g yX7_setsOf cX7_setsOf 1 (some (.int)) 1 0 0 zNN zNN zσ1 zσ1 [.ref (zb g + a0)] μ (some (.int rv)) μ := by
  refine zMet.of (by decide +kernel) (Nat.le_of_ble_eq_true rfl) ?_
  intro p e s m args below meth c C0
  refine z_loc (lo1 := [(0, .ref (zb g + a0))]) rfl ?_
  unfold f_X7_setsOf at h
  refine z_iconst (v := (1 : Int32)) C0 dX7_setsOf_0 (by decide) ?_
  refine z_aload_n C0 dX7_setsOf_1 rfl 0 rfl ?_
  refine z_geti C0 hT0.1 hT0.2.2.1 kf_7_19 zr_6_2 dX7_setsOf_2 ?_
  refine z_bipush (v := (8 : Int32)) C0 dX7_setsOf_5 (by decide) ?_
  refine z_mmin C0 rfl kM_RX7_25 kM_min (Nat.le_of_ble_eq_true rfl) (Nat.zero_le _) (Nat.zero_le _) dX7_setsOf_7 ?_
  refine z_ishl C0 dX7_setsOf_10 ?_
  skip
  obtain rfl := h
  exact z_iret C0 rfl dX7_setsOf_11
def f_X7_begin_L2 (a0 : Nat) : Nat → Int32 → zM → Option (zM)
  | 0, _, _ => none
  | n + 1, y2, μ3 =>
    if (256 : Int32) ≤ y2 then
      some μ3
    else
      zl (if ¬ y2 = 0 then
          (0 : Int32)
        else
          (1 : Int32)) fun x7 =>
      zg (zin y2 (zln a0)) <|
      zl (zup μ3 a0 (y2.toNatClampNeg) x7) fun μ9 =>
      zl (y2 + (1 : Int32)) fun x10 =>
      f_X7_begin_L2 a0 n x10 μ9
def f_X7_begin (a0 : Nat) (μ : zM) : Option (zM) :=
  zbd (f_X7_begin_L2 a0 zFU (0 : Int32) μ) fun μ11 =>
  some μ11
set_option maxHeartbeats 4000000 in
set_option maxRecDepth 100000 in
theorem r_X7_begin_L2 {l : Launch} {g : zL} {p : Program} {e : Env} {s : State} {m : MethodId} {args : Array Value} {below : List Frame} {meth : Method} {c : Code} {Q : State → Prop} (C0 : zC p s m args meth c g cX7_begin yX7_begin 2 none) (a0 : Nat) (hB1 : zAr zNN a0 20 (zln a0)) : ∀ (n : Nat) (y2 : Int32) (μ3 : zM) (μ11 : zM), f_X7_begin_L2 a0 n y2 μ3 = some μ11 → Z p l e (zrm 0 0 0) s m args below meth c g Q 2 zNN 0 0 zσ1 μ11 27 [] [] → Z p l e (zrm 0 0 0) s m args below meth c g Q 2 zNN 0 0 zσ1 μ3 2 [(0, .ref (zb g + a0)), (1, .int y2)] [] := by
  intro n
  induction n with
  | zero =>
    intro y2 μ3 μ11 h kx
    rw [f_X7_begin_L2] at h
    cases h
  | succ n ih =>
    intro y2 μ3 μ11 h kx
    rw [f_X7_begin_L2] at h
    refine z_iload_n C0 dX7_begin_2 rfl 1 rfl ?_
    refine z_sipush (v := (256 : Int32)) C0 dX7_begin_3 (by decide) ?_
    refine z_icmp_ge C0 27 dX7_begin_6 (by decide) (fun c4 => ?_) (fun c4 => ?_)
    · have h := zif_t c4 h
      refine z_sub (lo1 := []) [] rfl ?_
      obtain rfl := (Option.some.inj h)
      exact kx
    · have h := zif_f c4 h
      refine z_aload_n C0 dX7_begin_9 rfl 0 rfl ?_
      refine z_iload_n C0 dX7_begin_10 rfl 1 rfl ?_
      refine z_iload_n C0 dX7_begin_11 rfl 1 rfl ?_
      obtain ⟨x7, e_x7, h⟩ := zl_of h
      refine z_join μ3 20 [(0, .ref (zb g + a0)), (1, .int y2)] [.int x7, .int y2, .ref (zb g + a0)] ?_ (fun k_J6 => ?_)
      · obtain ⟨g8, h⟩ := zg_of h
        obtain ⟨μ9, e_μ9, h⟩ := zl_of h
        refine z_iast C0 hB1 g8 rfl e_μ9 dX7_begin_20 ?_
        obtain ⟨x10, e_x10, h⟩ := zl_of h
        refine z_iinc (lo1 := [(1, .int x10), (0, .ref (zb g + a0))]) C0 dX7_begin_21 1 rfl (by decide) e_x10.symm (by decide) rfl ?_
        refine z_goto C0 2 dX7_begin_24 (by decide) ?_
        refine z_sub (lo1 := [(0, .ref (zb g + a0)), (1, .int x10)]) [1, 0] rfl ?_
        exact ih _ _ _ h kx
      · have h := e_x7.symm
        refine z_if_ne C0 19 dX7_begin_12 (by decide) (fun c5 => ?_) (fun c5 => ?_)
        · have h := zif_t c5 h
          refine z_iconst (v := (0 : Int32)) C0 dX7_begin_19 (by decide) ?_
          obtain rfl := h
          exact k_J6
        · have h := zif_f (fun q => q c5) h
          refine z_iconst (v := (1 : Int32)) C0 dX7_begin_15 (by decide) ?_
          refine z_goto C0 20 dX7_begin_16 (by decide) ?_
          obtain rfl := h
          exact k_J6
set_option maxHeartbeats 4000000 in
set_option maxRecDepth 100000 in
theorem r_X7_begin {l : Launch} {g : zL} (a0 : Nat) (μ : zM) (hA0 : zAr zNN a0 20 (zln a0)) {μr : zM} (h : f_X7_begin a0 μ = some μr) : zMet l g yX7_begin cX7_begin 2 none 0 0 0 zNN zNN zσ1 zσ1 [.ref (zb g + a0)] μ none μr := by
  refine zMet.of (by decide +kernel) (Nat.le_of_ble_eq_true rfl) ?_
  intro p e s m args below meth c C0
  refine z_loc (lo1 := [(0, .ref (zb g + a0))]) rfl ?_
  unfold f_X7_begin at h
  refine z_iconst (v := (0 : Int32)) C0 dX7_begin_0 (by decide) ?_
  refine z_istore_n (lo1 := [(1, .int (0 : Int32)), (0, .ref (zb g + a0))]) C0 dX7_begin_1 rfl (by decide) rfl ?_
  refine z_sub (lo1 := [(0, .ref (zb g + a0)), (1, .int (0 : Int32))]) [1, 0] rfl ?_
  obtain ⟨μ11, e_μ11, h⟩ := zbd_of h
  refine r_X7_begin_L2 C0 a0 hA0 zFU (0 : Int32) μ μ11 e_μ11 ?_
  have h := Option.some.inj h
  obtain rfl := h
  exact z_vret C0 rfl dX7_begin_27
def f_X7_lay_L7 (a0 : Nat) (a1 : Nat) (x1 : Int32) : Nat → Int32 → zM → Option (zM)
  | 0, _, _ => none
  | n + 1, y4, μ5 =>
    if (256 : Int32) ≤ y4 then
      some μ5
    else
      zbd (if (y4 &&& x1) = 0 then
          some μ5
        else
          zg (zin y4 (zln a1)) <|
          zg (zin (y4 ^^^ x1) (zln a0)) <|
          zl (zup μ5 a1 (y4.toNatClampNeg) ((μ5 a1 (y4.toNatClampNeg)) + (μ5 a0 ((y4 ^^^ x1).toNatClampNeg)))) fun μ12 =>
          some μ12) fun μ13 =>
      zl (y4 + (1 : Int32)) fun x14 =>
      f_X7_lay_L7 a0 a1 x1 n x14 μ13
def f_X7_lay (a0 : Nat) (a1 : Nat) (v2 : Int32) (μ : zM) : Option (zM) :=
  zl ((1 : Int32) <<< (v2 &&& 31)) fun x1 =>
  zbd (f_X7_lay_L7 a0 a1 x1 zFU x1 μ) fun μ15 =>
  some μ15
set_option maxHeartbeats 4000000 in
set_option maxRecDepth 100000 in
theorem r_X7_lay_L7 {l : Launch} {g : zL} {p : Program} {e : Env} {s : State} {m : MethodId} {args : Array Value} {below : List Frame} {meth : Method} {c : Code} {Q : State → Prop} (C0 : zC p s m args meth c g cX7_lay yX7_lay 5 none) (a0 : Nat) (a1 : Nat) (x1 : Int32) (hB2 : zAr zNN a0 20 (zln a0)) (hB3 : zAr zNN a1 20 (zln a1)) : ∀ (n : Nat) (y4 : Int32) (μ5 : zM) (μ15 : zM), f_X7_lay_L7 a0 a1 x1 n y4 μ5 = some μ15 → Z p l e (zrm 0 0 0) s m args below meth c g Q 5 zNN 0 0 zσ1 μ15 41 [] [] → Z p l e (zrm 0 0 0) s m args below meth c g Q 5 zNN 0 0 zσ1 μ5 7 [(0, .ref (zb g + a0)), (1, .ref (zb g + a1)), (3, .int x1), (4, .int y4)] [] := by
  intro n
  induction n with
  | zero =>
    intro y4 μ5 μ15 h kx
    rw [f_X7_lay_L7] at h
    cases h
  | succ n ih =>
    intro y4 μ5 μ15 h kx
    rw [f_X7_lay_L7] at h
    refine z_iload C0 dX7_lay_7 3 rfl ?_
    refine z_sipush (v := (256 : Int32)) C0 dX7_lay_9 (by decide) ?_
    refine z_icmp_ge C0 41 dX7_lay_12 (by decide) (fun c6 => ?_) (fun c6 => ?_)
    · have h := zif_t c6 h
      refine z_sub (lo1 := []) [] rfl ?_
      obtain rfl := (Option.some.inj h)
      exact kx
    · have h := zif_f c6 h
      refine z_iload C0 dX7_lay_15 3 rfl ?_
      refine z_iload_n C0 dX7_lay_17 rfl 2 rfl ?_
      refine z_iand C0 dX7_lay_18 ?_
      obtain ⟨μ13, e_μ13, h⟩ := zbd_of h
      refine z_join μ13 35 [(0, .ref (zb g + a0)), (1, .ref (zb g + a1)), (3, .int x1), (4, .int y4)] [] ?_ (fun k_J9 => ?_)
      · obtain ⟨x14, e_x14, h⟩ := zl_of h
        refine z_iinc (lo1 := [(4, .int x14), (0, .ref (zb g + a0)), (1, .ref (zb g + a1)), (3, .int x1)]) C0 dX7_lay_35 3 rfl (by decide) e_x14.symm (by decide) rfl ?_
        refine z_goto C0 7 dX7_lay_38 (by decide) ?_
        refine z_sub (lo1 := [(0, .ref (zb g + a0)), (1, .ref (zb g + a1)), (3, .int x1), (4, .int x14)]) [1, 2, 3, 0] rfl ?_
        exact ih _ _ _ h kx
      · have h := e_μ13
        refine z_if_eq C0 35 dX7_lay_19 (by decide) (fun c8 => ?_) (fun c8 => ?_)
        · have h := zif_t c8 h
          obtain rfl := (Option.some.inj h)
          exact k_J9
        · have h := zif_f c8 h
          refine z_aload_n C0 dX7_lay_22 rfl 1 rfl ?_
          refine z_iload C0 dX7_lay_23 3 rfl ?_
          refine z_dup2 C0 dX7_lay_25 rfl rfl ?_
          obtain ⟨g10, h⟩ := zg_of h
          refine z_iald C0 hB3 g10 rfl dX7_lay_26 ?_
          refine z_aload_n C0 dX7_lay_27 rfl 0 rfl ?_
          refine z_iload C0 dX7_lay_28 3 rfl ?_
          refine z_iload_n C0 dX7_lay_30 rfl 2 rfl ?_
          refine z_ixor C0 dX7_lay_31 ?_
          obtain ⟨g11, h⟩ := zg_of h
          refine z_iald C0 hB2 g11 rfl dX7_lay_32 ?_
          refine z_iadd C0 dX7_lay_33 ?_
          obtain ⟨μ12, e_μ12, h⟩ := zl_of h
          refine z_iast C0 hB3 g10 rfl e_μ12 dX7_lay_34 ?_
          obtain rfl := (Option.some.inj h)
          exact k_J9
set_option maxHeartbeats 4000000 in
set_option maxRecDepth 100000 in
theorem r_X7_lay {l : Launch} {g : zL} (a0 : Nat) (a1 : Nat) (v2 : Int32) (μ : zM) (hA0 : zAr zNN a0 20 (zln a0)) (hA1 : zAr zNN a1 20 (zln a1)) {μr : zM} (h : f_X7_lay a0 a1 v2 μ = some μr) : zMet l g yX7_lay cX7_lay 5 none 0 0 0 zNN zNN zσ1 zσ1 [.ref (zb g + a0), .ref (zb g + a1), .int v2] μ none μr := by
  refine zMet.of (by decide +kernel) (Nat.le_of_ble_eq_true rfl) ?_
  intro p e s m args below meth c C0
  refine z_loc (lo1 := [(0, .ref (zb g + a0)), (1, .ref (zb g + a1)), (2, .int v2)]) rfl ?_
  unfold f_X7_lay at h
  refine z_iconst (v := (1 : Int32)) C0 dX7_lay_0 (by decide) ?_
  refine z_iload_n C0 dX7_lay_1 rfl 2 rfl ?_
  refine z_ishl C0 dX7_lay_2 ?_
  obtain ⟨x1, e_x1, h⟩ := zl_of h
  refine z_nm e_x1 ?_
  refine z_istore_n (lo1 := [(3, .int x1), (0, .ref (zb g + a0)), (1, .ref (zb g + a1)), (2, .int v2)]) C0 dX7_lay_3 rfl (by decide) rfl ?_
  refine z_iload_n C0 dX7_lay_4 rfl 0 rfl ?_
  refine z_istore (lo1 := [(4, .int x1), (3, .int x1), (0, .ref (zb g + a0)), (1, .ref (zb g + a1)), (2, .int v2)]) C0 dX7_lay_5 (by decide) rfl ?_
  refine z_sub (lo1 := [(0, .ref (zb g + a0)), (1, .ref (zb g + a1)), (3, .int x1), (4, .int x1)]) [2, 3, 1, 0] rfl ?_
  obtain ⟨μ15, e_μ15, h⟩ := zbd_of h
  refine r_X7_lay_L7 C0 a0 a1 x1 hA0 hA1 zFU x1 μ μ15 e_μ15 ?_
  have h := Option.some.inj h
  obtain rfl := h
  exact z_vret C0 rfl dX7_lay_41
def f_X7_extend_L13 (a0 : Nat) (a1 : Nat) (a2 : Nat) (v3 : Int32) : Nat → Int32 → zM → Option (zM)
  | 0, _, _ => none
  | n + 1, y6, μ7 =>
    if (¬ ((μ7 a2 2) ≤ y6)) ∧ ((¬ ((8 : Int32) ≤ y6)) ∧ (¬ (v3 = (-1 : Int32)))) then
      zbd (f_X6_number a2 y6 (0 : Int32) μ7) fun r17 =>
      zbd (if ¬ ((r17 >>> (v3 &&& 31)) &&& (1 : Int32)) = (1 : Int32) then
          some μ7
        else
          zbd (f_X7_lay a0 a1 y6 μ7) fun μ20 =>
          some μ20) fun μ21 =>
      zl (y6 + (1 : Int32)) fun x22 =>
      f_X7_extend_L13 a0 a1 a2 v3 n x22 μ21
    else
      some μ7
def f_X7_extend (a0 : Nat) (a1 : Nat) (a2 : Nat) (v3 : Int32) (μ : zM) : Option (zM) :=
  zg (zcpg (0 : Int32) (0 : Int32) (256 : Int32) (zln a0) (zln a1)) <|
  zl (zcp μ a0 a1 (0 : Int32) (0 : Int32) (256 : Int32)) fun μ2 =>
  zbd (f_X7_extend_L13 a0 a1 a2 v3 zFU (0 : Int32) μ2) fun μ23 =>
  some μ23
set_option maxHeartbeats 4000000 in
set_option maxRecDepth 100000 in
theorem r_X7_extend_L13 {l : Launch} {g : zL} {κ : zK} {p : Program} {e : Env} {s : State} {m : MethodId} {args : Array Value} {below : List Frame} {meth : Method} {c : Code} {Q : State → Prop} (C0 : zC p s m args meth c g cX7_extend yX7_extend 5 none) (hSp : zSK g κ) (a0 : Nat) (a1 : Nat) (a2 : Nat) (v3 : Int32) (hB3 : zAr zNN a0 20 (zln a0)) (hB4 : zAr zNN a1 20 (zln a1)) (hU5 : zT zNN zσ1 a2 6) : ∀ (n : Nat) (y6 : Int32) (μ7 : zM) (μ23 : zM), f_X7_extend_L13 a0 a1 a2 v3 n y6 μ7 = some μ23 → Z p l e (zrm 1 0 0) s m args below meth c g Q 5 zNN 0 0 zσ1 μ23 61 [] [] → Z p l e (zrm 1 0 0) s m args below meth c g Q 5 zNN 0 0 zσ1 μ7 13 [(0, .ref (zb g + a0)), (1, .ref (zb g + a1)), (2, .ref (zb g + a2)), (3, .int v3), (4, .int y6)] [] := by
  have hF := hSp.at C0
  intro n
  induction n with
  | zero =>
    intro y6 μ7 μ23 h kx
    rw [f_X7_extend_L13] at h
    cases h
  | succ n ih =>
    intro y6 μ7 μ23 h kx
    rw [f_X7_extend_L13] at h
    refine z_iload C0 dX7_extend_13 4 rfl ?_
    refine z_aload_n C0 dX7_extend_15 rfl 2 rfl ?_
    refine z_geti C0 hU5.1 hU5.2.2.1 kf_7_19 zr_6_2 dX7_extend_16 ?_
    by_cases hc24 : (¬ ((μ7 a2 2) ≤ y6)) ∧ ((¬ ((8 : Int32) ≤ y6)) ∧ (¬ (v3 = (-1 : Int32))))
    · have h := zif_t hc24 h
      refine z_join μ7 34 [(0, .ref (zb g + a0)), (1, .ref (zb g + a1)), (2, .ref (zb g + a2)), (3, .int v3), (4, .int y6)] [] ?_ (fun k25 => ?_)
      · refine z_aload_n C0 dX7_extend_34 rfl 2 rfl ?_
        refine z_iload C0 dX7_extend_35 4 rfl ?_
        refine z_iconst (v := (0 : Int32)) C0 dX7_extend_37 (by decide) ?_
        obtain ⟨r17, e_r17, h⟩ := zbd_of h
        refine z_callV (As := [.int y6, .int (0 : Int32)]) (rest := []) C0 rfl kc_X6_number km_RX7_37 (r_X6_number (l := l) (g := g) a2 y6 (0 : Int32) μ7 hU5 e_r17) hU5.1 hU5.2.2.1 rfl (by decide) rfl (Nat.le_of_ble_eq_true rfl) (Nat.le_of_ble_eq_true rfl) (Nat.le_of_ble_eq_true rfl) (Nat.le_of_ble_eq_true rfl) (Nat.le_refl _) rfl rfl dX7_extend_38 ?_
        refine z_iload_n C0 dX7_extend_41 rfl 3 rfl ?_
        refine z_callSN (As := [.int r17, .int v3]) (rest := []) C0 rfl kc_X11_isIn (hF.2.2.2.2.2.2.2.1 _ (List.mem_of_getElem? (i := 11) rfl)) (r_X11_isIn (l := l) (g := g) (μ := μ7) r17 v3 rfl) rfl (Nat.le_of_ble_eq_true rfl) (Nat.le_of_ble_eq_true rfl) (Nat.le_of_ble_eq_true rfl) (Nat.le_of_ble_eq_true rfl) rfl rfl dX7_extend_42 ?_
        obtain ⟨μ21, e_μ21, h⟩ := zbd_of h
        refine z_join μ21 55 [(0, .ref (zb g + a0)), (1, .ref (zb g + a1)), (2, .ref (zb g + a2)), (3, .int v3), (4, .int y6)] [] ?_ (fun k_J19 => ?_)
        · obtain ⟨x22, e_x22, h⟩ := zl_of h
          refine z_iinc (lo1 := [(4, .int x22), (0, .ref (zb g + a0)), (1, .ref (zb g + a1)), (2, .ref (zb g + a2)), (3, .int v3)]) C0 dX7_extend_55 4 rfl (by decide) e_x22.symm (by decide) rfl ?_
          refine z_goto C0 13 dX7_extend_58 (by decide) ?_
          refine z_sub (lo1 := [(0, .ref (zb g + a0)), (1, .ref (zb g + a1)), (2, .ref (zb g + a2)), (3, .int v3), (4, .int x22)]) [1, 2, 3, 4, 0] rfl ?_
          exact ih _ _ _ h kx
        · have h := e_μ21
          refine z_if_eqI C0 55 dX7_extend_45 (by decide) (fun c18 => ?_) (fun c18 => ?_)
          · have h := zif_t c18 h
            obtain rfl := (Option.some.inj h)
            exact k_J19
          · have h := zif_f (fun q => q c18) h
            refine z_aload_n C0 dX7_extend_48 rfl 0 rfl ?_
            refine z_aload_n C0 dX7_extend_49 rfl 1 rfl ?_
            refine z_iload C0 dX7_extend_50 4 rfl ?_
            obtain ⟨μ20, e_μ20, h⟩ := zbd_of h
            refine z_callS (As := [.ref (zb g + a0), .ref (zb g + a1), .int y6]) (rest := []) C0 rfl kc_X7_lay km_RX7_44 (r_X7_lay (l := l) (g := g) a0 a1 y6 μ7 (zAr_ln hB3) (zAr_ln hB4) e_μ20) rfl (Nat.le_of_ble_eq_true rfl) (Nat.le_of_ble_eq_true rfl) (Nat.le_of_ble_eq_true rfl) (Nat.le_of_ble_eq_true rfl) (Nat.le_refl _) rfl rfl dX7_extend_52 ?_
            obtain rfl := (Option.some.inj h)
            exact k_J19
      · refine z_icmp_ge C0 61 dX7_extend_19 (by decide) (fun c8 => ?_) (fun c8 => ?_)
        · exact absurd hc24 (fun q => q.1 c8)
        · refine z_iload C0 dX7_extend_22 4 rfl ?_
          refine z_bipush (v := (8 : Int32)) C0 dX7_extend_24 (by decide) ?_
          refine z_icmp_ge C0 61 dX7_extend_26 (by decide) (fun c14 => ?_) (fun c14 => ?_)
          · exact absurd hc24 (fun q => (fun q => q.1 c14) q.2)
          · refine z_iload_n C0 dX7_extend_29 rfl 3 rfl ?_
            refine z_iconst (v := (-1 : Int32)) C0 dX7_extend_30 (by decide) ?_
            refine z_icmp_eq C0 61 dX7_extend_31 (by decide) (fun c15 => ?_) (fun c15 => ?_)
            · exact absurd hc24 (fun q => (fun q => (fun q => q c15) q.2) q.2)
            · exact k25
    · have h := zif_f hc24 h
      refine z_join μ7 61 [(0, .ref (zb g + a0)), (1, .ref (zb g + a1)), (2, .ref (zb g + a2)), (3, .int v3), (4, .int y6)] [] ?_ (fun k26 => ?_)
      · refine z_sub (lo1 := []) [] rfl ?_
        obtain rfl := (Option.some.inj h)
        exact kx
      · refine z_icmp_ge C0 61 dX7_extend_19 (by decide) (fun c8 => ?_) (fun c8 => ?_)
        · exact k26
        · refine z_iload C0 dX7_extend_22 4 rfl ?_
          refine z_bipush (v := (8 : Int32)) C0 dX7_extend_24 (by decide) ?_
          refine z_icmp_ge C0 61 dX7_extend_26 (by decide) (fun c14 => ?_) (fun c14 => ?_)
          · exact k26
          · refine z_iload_n C0 dX7_extend_29 rfl 3 rfl ?_
            refine z_iconst (v := (-1 : Int32)) C0 dX7_extend_30 (by decide) ?_
            refine z_icmp_eq C0 61 dX7_extend_31 (by decide) (fun c15 => ?_) (fun c15 => ?_)
            · exact k26
            · exact absurd ⟨c8, ⟨c14, c15⟩⟩ hc24
set_option maxHeartbeats 4000000 in
set_option maxRecDepth 100000 in
theorem r_X7_extend {l : Launch} {g : zL} {κ : zK} (a0 : Nat) (a1 : Nat) (a2 : Nat) (v3 : Int32) (μ : zM) (hA0 : zAr zNN a0 20 (zln a0)) (hA1 : zAr zNN a1 20 (zln a1)) (hT2 : zT zNN zσ1 a2 6) (hSp : zSK g κ) {μr : zM} (h : f_X7_extend a0 a1 a2 v3 μ = some μr) : zMet l g yX7_extend cX7_extend 5 none 1 0 0 zNN zNN zσ1 zσ1 [.ref (zb g + a0), .ref (zb g + a1), .ref (zb g + a2), .int v3] μ none μr := by
  refine zMet.of (by decide +kernel) (Nat.le_of_ble_eq_true rfl) ?_
  intro p e s m args below meth c C0
  have hF := hSp.at C0
  refine z_loc (lo1 := [(0, .ref (zb g + a0)), (1, .ref (zb g + a1)), (2, .ref (zb g + a2)), (3, .int v3)]) rfl ?_
  unfold f_X7_extend at h
  refine z_aload_n C0 dX7_extend_0 rfl 0 rfl ?_
  refine z_iconst (v := (0 : Int32)) C0 dX7_extend_1 (by decide) ?_
  refine z_aload_n C0 dX7_extend_2 rfl 1 rfl ?_
  refine z_iconst (v := (0 : Int32)) C0 dX7_extend_3 (by decide) ?_
  refine z_sipush (v := (256 : Int32)) C0 dX7_extend_4 (by decide) ?_
  obtain ⟨g1, h⟩ := zg_of h
  obtain ⟨μ2, e_μ2, h⟩ := zl_of h
  refine z_copyi C0 rfl km_RX7_31 kA hA0 hA1 g1 (Nat.le_of_ble_eq_true rfl) e_μ2 dX7_extend_7 ?_
  refine z_iconst (v := (0 : Int32)) C0 dX7_extend_10 (by decide) ?_
  refine z_istore (lo1 := [(4, .int (0 : Int32)), (0, .ref (zb g + a0)), (1, .ref (zb g + a1)), (2, .ref (zb g + a2)), (3, .int v3)]) C0 dX7_extend_11 (by decide) rfl ?_
  refine z_sub (lo1 := [(0, .ref (zb g + a0)), (1, .ref (zb g + a1)), (2, .ref (zb g + a2)), (3, .int v3), (4, .int (0 : Int32))]) [1, 2, 3, 4, 0] rfl ?_
  obtain ⟨μ23, e_μ23, h⟩ := zbd_of h
  refine r_X7_extend_L13 C0 hSp a0 a1 a2 v3 hA0 hA1 hT2 zFU (0 : Int32) μ2 μ23 e_μ23 ?_
  have h := Option.some.inj h
  obtain rfl := h
  exact z_vret C0 rfl dX7_extend_61
def f_X7_waysWithout_L12 (a0 : Nat) (a1 : Nat) (v2 : Int32) (v3 : Int32) : Nat → Int32 → zM → Option (zM)
  | 0, _, _ => none
  | n + 1, y4, μ5 =>
    if (8 : Int32) ≤ y4 then
      some μ5
    else
      zg (zin y4 9) <|
      zg (zin (y4 + (1 : Int32)) 9) <|
      zl (if ¬ y4 = v3 then
          y4
        else
          (-1 : Int32)) fun x11 =>
      zbd (f_X7_extend (a0 + 12 + 1 * y4.toNatClampNeg) (a0 + 12 + 1 * (y4 + (1 : Int32)).toNatClampNeg) a1 x11 μ5) fun μ12 =>
      zl (y4 + (1 : Int32)) fun x13 =>
      f_X7_waysWithout_L12 a0 a1 v2 v3 n x13 μ12
def f_X7_waysWithout (a0 : Nat) (a1 : Nat) (v2 : Int32) (v3 : Int32) (μ : zM) : Option (Int32 × zM) :=
  zbd (f_X7_begin (a0 + 12 + 1 * (0 : Int32).toNatClampNeg) μ) fun μ1 =>
  zbd (f_X7_waysWithout_L12 a0 a1 v2 v3 zFU (0 : Int32) μ1) fun μ14 =>
  zg (zin v2 256) <|
  some ((μ14 (a0 + 12 + 1 * (8 : Int32).toNatClampNeg) (v2.toNatClampNeg)), μ14)
set_option maxHeartbeats 4000000 in
set_option maxRecDepth 100000 in
theorem r_X7_waysWithout_L12 {l : Launch} {g : zL} {κ : zK} {p : Program} {e : Env} {s : State} {m : MethodId} {args : Array Value} {below : List Frame} {meth : Method} {c : Code} {Q : State → Prop} (C0 : zC p s m args meth c g cX7_waysWithout yX7_waysWithout 5 (some (.int))) (hSp : zSK g κ) (a0 : Nat) (a1 : Nat) (v2 : Int32) (v3 : Int32) (hU2 : zT zNN zσ1 a0 7) (hU3 : zT zNN zσ1 a1 6) : ∀ (n : Nat) (y4 : Int32) (μ5 : zM) (μ14 : zM), f_X7_waysWithout_L12 a0 a1 v2 v3 n y4 μ5 = some μ14 → Z p l e (zrm 2 0 0) s m args below meth c g Q 5 zNN 0 0 zσ1 μ14 57 [(0, .ref (zb g + a0)), (2, .int v2)] [] → Z p l e (zrm 2 0 0) s m args below meth c g Q 5 zNN 0 0 zσ1 μ5 12 [(0, .ref (zb g + a0)), (1, .ref (zb g + a1)), (2, .int v2), (3, .int v3), (4, .int y4)] [] := by
  have hF := hSp.at C0
  intro n
  induction n with
  | zero =>
    intro y4 μ5 μ14 h kx
    rw [f_X7_waysWithout_L12] at h
    cases h
  | succ n ih =>
    intro y4 μ5 μ14 h kx
    rw [f_X7_waysWithout_L12] at h
    refine z_iload C0 dX7_waysWithout_12 4 rfl ?_
    refine z_bipush (v := (8 : Int32)) C0 dX7_waysWithout_14 (by decide) ?_
    refine z_icmp_ge C0 57 dX7_waysWithout_16 (by decide) (fun c6 => ?_) (fun c6 => ?_)
    · have h := zif_t c6 h
      refine z_sub (lo1 := [(0, .ref (zb g + a0)), (2, .int v2)]) [0, 2] rfl ?_
      obtain rfl := (Option.some.inj h)
      exact kx
    · have h := zif_f c6 h
      refine z_aload_n C0 dX7_waysWithout_19 rfl 0 rfl ?_
      refine z_getr C0 hU2 kf_7_16 zr_7_1 zx_7 (zs_7_1 hU2).1 dX7_waysWithout_20 ?_
      refine z_iload C0 dX7_waysWithout_23 4 rfl ?_
      obtain ⟨g7, h⟩ := zg_of h
      refine z_aald C0 (zs_7_1 hU2).2 (by decide) (by decide) g7 (ze_7_1 hU2 g7).1 (ze_7_1 hU2 g7).2.1 dX7_waysWithout_25 ?_
      refine z_aload_n C0 dX7_waysWithout_26 rfl 0 rfl ?_
      refine z_getr C0 hU2 kf_7_16 zr_7_1 zx_7 (zs_7_1 hU2).1 dX7_waysWithout_27 ?_
      refine z_iload C0 dX7_waysWithout_30 4 rfl ?_
      refine z_iconst (v := (1 : Int32)) C0 dX7_waysWithout_32 (by decide) ?_
      refine z_iadd C0 dX7_waysWithout_33 ?_
      obtain ⟨g8, h⟩ := zg_of h
      refine z_aald C0 (zs_7_1 hU2).2 (by decide) (by decide) g8 (ze_7_1 hU2 g8).1 (ze_7_1 hU2 g8).2.1 dX7_waysWithout_34 ?_
      refine z_aload_n C0 dX7_waysWithout_35 rfl 1 rfl ?_
      refine z_iload C0 dX7_waysWithout_36 4 rfl ?_
      refine z_iload_n C0 dX7_waysWithout_38 rfl 3 rfl ?_
      obtain ⟨x11, e_x11, h⟩ := zl_of h
      refine z_join μ5 48 [(0, .ref (zb g + a0)), (1, .ref (zb g + a1)), (2, .int v2), (3, .int v3), (4, .int y4)] [.int x11, .ref (zb g + a1), .ref (zb g + (a0 + 12 + 1 * (y4 + (1 : Int32)).toNatClampNeg)), .ref (zb g + (a0 + 12 + 1 * y4.toNatClampNeg))] ?_ (fun k_J10 => ?_)
      · obtain ⟨μ12, e_μ12, h⟩ := zbd_of h
        refine z_callS (As := [.ref (zb g + (a0 + 12 + 1 * y4.toNatClampNeg)), .ref (zb g + (a0 + 12 + 1 * (y4 + (1 : Int32)).toNatClampNeg)), .ref (zb g + a1), .int x11]) (rest := []) C0 rfl kc_X7_extend km_RX7_52 (r_X7_extend (l := l) (g := g) (a0 + 12 + 1 * y4.toNatClampNeg) (a0 + 12 + 1 * (y4 + (1 : Int32)).toNatClampNeg) a1 x11 μ5 (zAr_ln (ze_7_1 hU2 g7).2.2) (zAr_ln (ze_7_1 hU2 g8).2.2) hU3 hSp e_μ12) rfl (Nat.le_of_ble_eq_true rfl) (Nat.le_of_ble_eq_true rfl) (Nat.le_of_ble_eq_true rfl) (Nat.le_of_ble_eq_true rfl) (Nat.le_refl _) rfl rfl dX7_waysWithout_48 ?_
        obtain ⟨x13, e_x13, h⟩ := zl_of h
        refine z_iinc (lo1 := [(4, .int x13), (0, .ref (zb g + a0)), (1, .ref (zb g + a1)), (2, .int v2), (3, .int v3)]) C0 dX7_waysWithout_51 4 rfl (by decide) e_x13.symm (by decide) rfl ?_
        refine z_goto C0 12 dX7_waysWithout_54 (by decide) ?_
        refine z_sub (lo1 := [(0, .ref (zb g + a0)), (1, .ref (zb g + a1)), (2, .int v2), (3, .int v3), (4, .int x13)]) [1, 2, 3, 4, 0] rfl ?_
        exact ih _ _ _ h kx
      · have h := e_x11.symm
        refine z_icmp_ne C0 46 dX7_waysWithout_39 (by decide) (fun c9 => ?_) (fun c9 => ?_)
        · have h := zif_t c9 h
          refine z_iload C0 dX7_waysWithout_46 4 rfl ?_
          obtain rfl := h
          exact k_J10
        · have h := zif_f (fun q => q c9) h
          refine z_iconst (v := (-1 : Int32)) C0 dX7_waysWithout_42 (by decide) ?_
          refine z_goto C0 48 dX7_waysWithout_43 (by decide) ?_
          obtain rfl := h
          exact k_J10
set_option maxHeartbeats 4000000 in
set_option maxRecDepth 100000 in
theorem r_X7_waysWithout {l : Launch} {g : zL} {κ : zK} (a0 : Nat) (a1 : Nat) (v2 : Int32) (v3 : Int32) (μ : zM) (hT0 : zT zNN zσ1 a0 7) (hT1 : zT zNN zσ1 a1 6) (hSp : zSK g κ) {rv : Int32} {μr : zM} (h : f_X7_waysWithout a0 a1 v2 v3 μ = some (rv, μr)) : zMet l g yX7_waysWithout cX7_waysWithout 5 (some (.int)) 2 0 0 zNN zNN zσ1 zσ1 [.ref (zb g + a0), .ref (zb g + a1), .int v2, .int v3] μ (some (.int rv)) μr := by
  refine zMet.of (by decide +kernel) (Nat.le_of_ble_eq_true rfl) ?_
  intro p e s m args below meth c C0
  have hF := hSp.at C0
  refine z_loc (lo1 := [(0, .ref (zb g + a0)), (1, .ref (zb g + a1)), (2, .int v2), (3, .int v3)]) rfl ?_
  unfold f_X7_waysWithout at h
  refine z_aload_n C0 dX7_waysWithout_0 rfl 0 rfl ?_
  refine z_getr C0 hT0 kf_7_16 zr_7_1 zx_7 (zs_7_1 hT0).1 dX7_waysWithout_1 ?_
  refine z_iconst (v := (0 : Int32)) C0 dX7_waysWithout_4 (by decide) ?_
  refine z_aald C0 (zs_7_1 hT0).2 (by decide) (by decide) (by decide : zin (0 : Int32) 9 = true) (ze_7_1 hT0 (by decide : zin (0 : Int32) 9 = true)).1 (ze_7_1 hT0 (by decide : zin (0 : Int32) 9 = true)).2.1 dX7_waysWithout_5 ?_
  obtain ⟨μ1, e_μ1, h⟩ := zbd_of h
  refine z_callS (As := [.ref (zb g + (a0 + 12 + 1 * (0 : Int32).toNatClampNeg))]) (rest := []) C0 rfl kc_X7_begin km_RX7_48 (r_X7_begin (l := l) (g := g) (a0 + 12 + 1 * (0 : Int32).toNatClampNeg) μ (zAr_ln (ze_7_1 hT0 (by decide : zin (0 : Int32) 9 = true)).2.2) e_μ1) rfl (Nat.le_of_ble_eq_true rfl) (Nat.le_of_ble_eq_true rfl) (Nat.le_of_ble_eq_true rfl) (Nat.le_of_ble_eq_true rfl) (Nat.le_refl _) rfl rfl dX7_waysWithout_6 ?_
  refine z_iconst (v := (0 : Int32)) C0 dX7_waysWithout_9 (by decide) ?_
  refine z_istore (lo1 := [(4, .int (0 : Int32)), (0, .ref (zb g + a0)), (1, .ref (zb g + a1)), (2, .int v2), (3, .int v3)]) C0 dX7_waysWithout_10 (by decide) rfl ?_
  refine z_sub (lo1 := [(0, .ref (zb g + a0)), (1, .ref (zb g + a1)), (2, .int v2), (3, .int v3), (4, .int (0 : Int32))]) [1, 2, 3, 4, 0] rfl ?_
  obtain ⟨μ14, e_μ14, h⟩ := zbd_of h
  refine r_X7_waysWithout_L12 C0 hSp a0 a1 v2 v3 hT0 hT1 zFU (0 : Int32) μ1 μ14 e_μ14 ?_
  refine z_aload_n C0 dX7_waysWithout_57 rfl 0 rfl ?_
  refine z_getr C0 hT0 kf_7_16 zr_7_1 zx_7 (zs_7_1 hT0).1 dX7_waysWithout_58 ?_
  refine z_bipush (v := (8 : Int32)) C0 dX7_waysWithout_61 (by decide) ?_
  refine z_aald C0 (zs_7_1 hT0).2 (by decide) (by decide) (by decide : zin (8 : Int32) 9 = true) (ze_7_1 hT0 (by decide : zin (8 : Int32) 9 = true)).1 (ze_7_1 hT0 (by decide : zin (8 : Int32) 9 = true)).2.1 dX7_waysWithout_63 ?_
  refine z_iload_n C0 dX7_waysWithout_64 rfl 1 rfl ?_
  obtain ⟨g15, h⟩ := zg_of h
  refine z_iald C0 (ze_7_1 hT0 (by decide : zin (8 : Int32) 9 = true)).2.2 g15 rfl dX7_waysWithout_65 ?_
  have h := Option.some.inj h
  obtain ⟨rfl, rfl⟩ := Prod.mk.inj h
  exact z_iret C0 rfl dX7_waysWithout_66
def f_X7_ways (a0 : Nat) (a1 : Nat) (μ : zM) : Option (Int32 × zM) :=
  zbd2 (f_X7_waysWithout a0 a1 ((f_X7_setsOf a1 μ) - (1 : Int32)) (-1 : Int32) μ) fun r1 μ2 =>
  some (r1, μ2)
set_option maxHeartbeats 4000000 in
set_option maxRecDepth 100000 in
theorem r_X7_ways {l : Launch} {g : zL} {κ : zK} (a0 : Nat) (a1 : Nat) (μ : zM) (hT0 : zT zNN zσ1 a0 7) (hT1 : zT zNN zσ1 a1 6) (hSp : zSK g κ) {rv : Int32} {μr : zM} (h : f_X7_ways a0 a1 μ = some (rv, μr)) : zMet l g yX7_ways cX7_ways 2 (some (.int)) 3 0 0 zNN zNN zσ1 zσ1 [.ref (zb g + a0), .ref (zb g + a1)] μ (some (.int rv)) μr := by
  refine zMet.of (by decide +kernel) (Nat.le_of_ble_eq_true rfl) ?_
  intro p e s m args below meth c C0
  have hF := hSp.at C0
  refine z_loc (lo1 := [(0, .ref (zb g + a0)), (1, .ref (zb g + a1))]) rfl ?_
  unfold f_X7_ways at h
  refine z_aload_n C0 dX7_ways_0 rfl 0 rfl ?_
  refine z_aload_n C0 dX7_ways_1 rfl 1 rfl ?_
  refine z_aload_n C0 dX7_ways_2 rfl 1 rfl ?_
  refine z_callS (As := [.ref (zb g + a1)]) (rest := [.ref (zb g + a1), .ref (zb g + a0)]) C0 rfl kc_X7_setsOf km_RX7_56 (r_X7_setsOf (l := l) (g := g) a1 μ hT1 rfl) rfl (Nat.le_of_ble_eq_true rfl) (Nat.le_of_ble_eq_true rfl) (Nat.le_of_ble_eq_true rfl) (Nat.le_of_ble_eq_true rfl) (Nat.le_refl _) rfl rfl dX7_ways_3 ?_
  refine z_iconst (v := (1 : Int32)) C0 dX7_ways_6 (by decide) ?_
  refine z_isub C0 dX7_ways_7 ?_
  refine z_iconst (v := (-1 : Int32)) C0 dX7_ways_8 (by decide) ?_
  obtain ⟨r1, μ2, e_r1, h⟩ := zbd2_of h
  refine z_callV (As := [.ref (zb g + a1), .int ((f_X7_setsOf a1 μ) - (1 : Int32)), .int (-1 : Int32)]) (rest := []) C0 rfl kc_X7_waysWithout km_RX7_60 (r_X7_waysWithout (l := l) (g := g) a0 a1 ((f_X7_setsOf a1 μ) - (1 : Int32)) (-1 : Int32) μ hT0 hT1 hSp e_r1) hT0.1 hT0.2.2.1 rfl (by decide) rfl (Nat.le_of_ble_eq_true rfl) (Nat.le_of_ble_eq_true rfl) (Nat.le_of_ble_eq_true rfl) (Nat.le_of_ble_eq_true rfl) (Nat.le_refl _) rfl rfl dX7_ways_9 ?_
  have h := Option.some.inj h
  obtain ⟨rfl, rfl⟩ := Prod.mk.inj h
  exact z_iret C0 rfl dX7_ways_12
def f_X7_openThese_L13 (a0 : Nat) (a1 : Nat) (v2 : Int32) : Nat → Int32 → zM → Option (zM)
  | 0, _, _ => none
  | n + 1, y4, μ5 =>
    if y4 < 0 then
      some μ5
    else
      zl ((7 : Int32) - y4) fun x7 =>
      zl (if ¬ ((v2 >>> (y4 &&& 31)) &&& (1 : Int32)) = (1 : Int32) then (0 : Int32) else (1 : Int32)) fun x8 =>
      zg (zin x7 9) <|
      zg (zin (x7 + (1 : Int32)) 9) <|
      zl (if x8 = 0 then
          (-1 : Int32)
        else
          y4) fun x13 =>
      zbd (f_X7_extend (a0 + 2 + 1 * x7.toNatClampNeg) (a0 + 2 + 1 * (x7 + (1 : Int32)).toNatClampNeg) a1 x13 μ5) fun μ14 =>
      zl (if x8 = 0 then
          y4
        else
          (-1 : Int32)) fun x17 =>
      zbd (f_X7_extend (a0 + 12 + 1 * x7.toNatClampNeg) (a0 + 12 + 1 * (x7 + (1 : Int32)).toNatClampNeg) a1 x17 μ14) fun μ18 =>
      zl (y4 + (-1 : Int32)) fun x19 =>
      f_X7_openThese_L13 a0 a1 v2 n x19 μ18
def f_X7_openThese (a0 : Nat) (a1 : Nat) (v2 : Int32) (μ : zM) : Option (zM) :=
  zl (zmin (f_J6_numberOfTrailingZeros_0f7a4 v2) (7 : Int32)) fun x1 =>
  zbd (f_X7_openThese_L13 a0 a1 v2 zFU x1 μ) fun μ20 =>
  some μ20
set_option maxHeartbeats 4000000 in
set_option maxRecDepth 100000 in
theorem r_X7_openThese_L13 {l : Launch} {g : zL} {κ : zK} {p : Program} {e : Env} {s : State} {m : MethodId} {args : Array Value} {below : List Frame} {meth : Method} {c : Code} {Q : State → Prop} (C0 : zC p s m args meth c g cX7_openThese yX7_openThese 7 none) (hSp : zSK g κ) (a0 : Nat) (a1 : Nat) (v2 : Int32) (hU2 : zT zNN zσ1 a0 7) (hU3 : zT zNN zσ1 a1 6) : ∀ (n : Nat) (y4 : Int32) (μ5 : zM) (μ20 : zM), f_X7_openThese_L13 a0 a1 v2 n y4 μ5 = some μ20 → Z p l e (zrm 2 0 0) s m args below meth c g Q 7 zNN 0 0 zσ1 μ20 101 [] [] → Z p l e (zrm 2 0 0) s m args below meth c g Q 7 zNN 0 0 zσ1 μ5 13 [(0, .ref (zb g + a0)), (1, .ref (zb g + a1)), (2, .int v2), (4, .int y4)] [] := by
  have hF := hSp.at C0
  intro n
  induction n with
  | zero =>
    intro y4 μ5 μ20 h kx
    rw [f_X7_openThese_L13] at h
    cases h
  | succ n ih =>
    intro y4 μ5 μ20 h kx
    rw [f_X7_openThese_L13] at h
    refine z_iload C0 dX7_openThese_13 3 rfl ?_
    refine z_if_lt C0 101 dX7_openThese_15 (by decide) (fun c6 => ?_) (fun c6 => ?_)
    · have h := zif_t c6 h
      refine z_sub (lo1 := []) [] rfl ?_
      obtain rfl := (Option.some.inj h)
      exact kx
    · have h := zif_f c6 h
      refine z_bipush (v := (7 : Int32)) C0 dX7_openThese_18 (by decide) ?_
      refine z_iload C0 dX7_openThese_20 3 rfl ?_
      refine z_isub C0 dX7_openThese_22 ?_
      obtain ⟨x7, e_x7, h⟩ := zl_of h
      refine z_nm e_x7 ?_
      refine z_istore (lo1 := [(5, .int x7), (0, .ref (zb g + a0)), (1, .ref (zb g + a1)), (2, .int v2), (4, .int y4)]) C0 dX7_openThese_23 (by decide) rfl ?_
      refine z_iload_n C0 dX7_openThese_25 rfl 3 rfl ?_
      refine z_iload C0 dX7_openThese_26 4 rfl ?_
      refine z_callSN (As := [.int v2, .int y4]) (rest := []) C0 rfl kc_X11_isIn (hF.2.2.2.2.2.2.2.1 _ (List.mem_of_getElem? (i := 11) rfl)) (r_X11_isIn (l := l) (g := g) (μ := μ5) v2 y4 rfl) rfl (Nat.le_of_ble_eq_true rfl) (Nat.le_of_ble_eq_true rfl) (Nat.le_of_ble_eq_true rfl) (Nat.le_of_ble_eq_true rfl) rfl rfl dX7_openThese_28 ?_
      obtain ⟨x8, e_x8, h⟩ := zl_of h
      refine z_nm e_x8 ?_
      refine z_istore (lo1 := [(6, .int x8), (5, .int x7), (0, .ref (zb g + a0)), (1, .ref (zb g + a1)), (2, .int v2), (4, .int y4)]) C0 dX7_openThese_31 (by decide) rfl ?_
      refine z_aload_n C0 dX7_openThese_33 rfl 2 rfl ?_
      refine z_getr C0 hU2 kf_7_13 zr_7_0 zx_7 (zs_7_0 hU2).1 dX7_openThese_34 ?_
      refine z_iload C0 dX7_openThese_37 1 rfl ?_
      obtain ⟨g9, h⟩ := zg_of h
      refine z_aald C0 (zs_7_0 hU2).2 (by decide) (by decide) g9 (ze_7_0 hU2 g9).1 (ze_7_0 hU2 g9).2.1 dX7_openThese_39 ?_
      refine z_aload_n C0 dX7_openThese_40 rfl 2 rfl ?_
      refine z_getr C0 hU2 kf_7_13 zr_7_0 zx_7 (zs_7_0 hU2).1 dX7_openThese_41 ?_
      refine z_iload C0 dX7_openThese_44 1 rfl ?_
      refine z_iconst (v := (1 : Int32)) C0 dX7_openThese_46 (by decide) ?_
      refine z_iadd C0 dX7_openThese_47 ?_
      obtain ⟨g10, h⟩ := zg_of h
      refine z_aald C0 (zs_7_0 hU2).2 (by decide) (by decide) g10 (ze_7_0 hU2 g10).1 (ze_7_0 hU2 g10).2.1 dX7_openThese_48 ?_
      refine z_aload_n C0 dX7_openThese_49 rfl 3 rfl ?_
      refine z_iload C0 dX7_openThese_50 0 rfl ?_
      obtain ⟨x13, e_x13, h⟩ := zl_of h
      refine z_join μ5 61 [(0, .ref (zb g + a0)), (1, .ref (zb g + a1)), (2, .int v2), (4, .int y4), (5, .int x7), (6, .int x8)] [.int x13, .ref (zb g + a1), .ref (zb g + (a0 + 2 + 1 * (x7 + (1 : Int32)).toNatClampNeg)), .ref (zb g + (a0 + 2 + 1 * x7.toNatClampNeg))] ?_ (fun k_J12 => ?_)
      · obtain ⟨μ14, e_μ14, h⟩ := zbd_of h
        refine z_callS (As := [.ref (zb g + (a0 + 2 + 1 * x7.toNatClampNeg)), .ref (zb g + (a0 + 2 + 1 * (x7 + (1 : Int32)).toNatClampNeg)), .ref (zb g + a1), .int x13]) (rest := []) C0 rfl kc_X7_extend km_RX7_52 (r_X7_extend (l := l) (g := g) (a0 + 2 + 1 * x7.toNatClampNeg) (a0 + 2 + 1 * (x7 + (1 : Int32)).toNatClampNeg) a1 x13 μ5 (zAr_ln (ze_7_0 hU2 g9).2.2) (zAr_ln (ze_7_0 hU2 g10).2.2) hU3 hSp e_μ14) rfl (Nat.le_of_ble_eq_true rfl) (Nat.le_of_ble_eq_true rfl) (Nat.le_of_ble_eq_true rfl) (Nat.le_of_ble_eq_true rfl) (Nat.le_refl _) rfl rfl dX7_openThese_61 ?_
        refine z_aload_n C0 dX7_openThese_64 rfl 0 rfl ?_
        refine z_getr C0 hU2 kf_7_16 zr_7_1 zx_7 (zs_7_1 hU2).1 dX7_openThese_65 ?_
        refine z_iload C0 dX7_openThese_68 4 rfl ?_
        refine z_aald C0 (zs_7_1 hU2).2 (by decide) (by decide) g9 (ze_7_1 hU2 g9).1 (ze_7_1 hU2 g9).2.1 dX7_openThese_70 ?_
        refine z_aload_n C0 dX7_openThese_71 rfl 0 rfl ?_
        refine z_getr C0 hU2 kf_7_16 zr_7_1 zx_7 (zs_7_1 hU2).1 dX7_openThese_72 ?_
        refine z_iload C0 dX7_openThese_75 4 rfl ?_
        refine z_iconst (v := (1 : Int32)) C0 dX7_openThese_77 (by decide) ?_
        refine z_iadd C0 dX7_openThese_78 ?_
        refine z_aald C0 (zs_7_1 hU2).2 (by decide) (by decide) g10 (ze_7_1 hU2 g10).1 (ze_7_1 hU2 g10).2.1 dX7_openThese_79 ?_
        refine z_aload_n C0 dX7_openThese_80 rfl 1 rfl ?_
        refine z_iload C0 dX7_openThese_81 5 rfl ?_
        obtain ⟨x17, e_x17, h⟩ := zl_of h
        refine z_join μ14 92 [(0, .ref (zb g + a0)), (1, .ref (zb g + a1)), (2, .int v2), (4, .int y4)] [.int x17, .ref (zb g + a1), .ref (zb g + (a0 + 12 + 1 * (x7 + (1 : Int32)).toNatClampNeg)), .ref (zb g + (a0 + 12 + 1 * x7.toNatClampNeg))] ?_ (fun k_J16 => ?_)
        · obtain ⟨μ18, e_μ18, h⟩ := zbd_of h
          refine z_callS (As := [.ref (zb g + (a0 + 12 + 1 * x7.toNatClampNeg)), .ref (zb g + (a0 + 12 + 1 * (x7 + (1 : Int32)).toNatClampNeg)), .ref (zb g + a1), .int x17]) (rest := []) C0 rfl kc_X7_extend km_RX7_52 (r_X7_extend (l := l) (g := g) (a0 + 12 + 1 * x7.toNatClampNeg) (a0 + 12 + 1 * (x7 + (1 : Int32)).toNatClampNeg) a1 x17 μ14 (zAr_ln (ze_7_1 hU2 g9).2.2) (zAr_ln (ze_7_1 hU2 g10).2.2) hU3 hSp e_μ18) rfl (Nat.le_of_ble_eq_true rfl) (Nat.le_of_ble_eq_true rfl) (Nat.le_of_ble_eq_true rfl) (Nat.le_of_ble_eq_true rfl) (Nat.le_refl _) rfl rfl dX7_openThese_92 ?_
          obtain ⟨x19, e_x19, h⟩ := zl_of h
          refine z_iinc (lo1 := [(4, .int x19), (0, .ref (zb g + a0)), (1, .ref (zb g + a1)), (2, .int v2)]) C0 dX7_openThese_95 3 rfl (by decide) e_x19.symm (by decide) rfl ?_
          refine z_goto C0 13 dX7_openThese_98 (by decide) ?_
          refine z_sub (lo1 := [(0, .ref (zb g + a0)), (1, .ref (zb g + a1)), (2, .int v2), (4, .int x19)]) [1, 2, 3, 0] rfl ?_
          exact ih _ _ _ h kx
        · have h := e_x17.symm
          refine z_if_eq C0 90 dX7_openThese_83 (by decide) (fun c15 => ?_) (fun c15 => ?_)
          · have h := zif_t c15 h
            refine z_iload C0 dX7_openThese_90 3 rfl ?_
            refine z_sub (lo1 := [(0, .ref (zb g + a0)), (1, .ref (zb g + a1)), (2, .int v2), (4, .int y4)]) [0, 1, 2, 3] rfl ?_
            obtain rfl := h
            exact k_J16
          · have h := zif_f c15 h
            refine z_iconst (v := (-1 : Int32)) C0 dX7_openThese_86 (by decide) ?_
            refine z_goto C0 92 dX7_openThese_87 (by decide) ?_
            refine z_sub (lo1 := [(0, .ref (zb g + a0)), (1, .ref (zb g + a1)), (2, .int v2), (4, .int y4)]) [0, 1, 2, 3] rfl ?_
            obtain rfl := h
            exact k_J16
      · have h := e_x13.symm
        refine z_if_eq C0 60 dX7_openThese_52 (by decide) (fun c11 => ?_) (fun c11 => ?_)
        · have h := zif_t c11 h
          refine z_iconst (v := (-1 : Int32)) C0 dX7_openThese_60 (by decide) ?_
          refine z_sub (lo1 := [(0, .ref (zb g + a0)), (1, .ref (zb g + a1)), (2, .int v2), (4, .int y4), (5, .int x7), (6, .int x8)]) [2, 3, 4, 5, 1, 0] rfl ?_
          obtain rfl := h
          exact k_J12
        · have h := zif_f c11 h
          refine z_iload C0 dX7_openThese_55 5 rfl ?_
          refine z_goto C0 61 dX7_openThese_57 (by decide) ?_
          refine z_sub (lo1 := [(0, .ref (zb g + a0)), (1, .ref (zb g + a1)), (2, .int v2), (4, .int y4), (5, .int x7), (6, .int x8)]) [2, 3, 4, 5, 1, 0] rfl ?_
          obtain rfl := h
          exact k_J12
set_option maxHeartbeats 4000000 in
set_option maxRecDepth 100000 in
theorem r_X7_openThese {l : Launch} {g : zL} {κ : zK} (a0 : Nat) (a1 : Nat) (v2 : Int32) (μ : zM) (hT0 : zT zNN zσ1 a0 7) (hT1 : zT zNN zσ1 a1 6) (hSp : zSK g κ) {μr : zM} (h : f_X7_openThese a0 a1 v2 μ = some μr) : zMet l g yX7_openThese cX7_openThese 7 none 2 0 0 zNN zNN zσ1 zσ1 [.ref (zb g + a0), .ref (zb g + a1), .int v2] μ none μr := by
  refine zMet.of (by decide +kernel) (Nat.le_of_ble_eq_true rfl) ?_
  intro p e s m args below meth c C0
  have hF := hSp.at C0
  refine z_loc (lo1 := [(0, .ref (zb g + a0)), (1, .ref (zb g + a1)), (2, .int v2)]) rfl ?_
  unfold f_X7_openThese at h
  refine z_iload_n C0 dX7_openThese_0 rfl 2 rfl ?_
  refine z_callS (As := [.int v2]) (rest := []) C0 rfl kc_J6_numberOfTrailingZeros_0f7a4 km_RX7_74 (r_J6_numberOfTrailingZeros_0f7a4 (l := l) (g := g) (μ := μ) v2 rfl) rfl (Nat.le_of_ble_eq_true rfl) (Nat.le_of_ble_eq_true rfl) (Nat.le_of_ble_eq_true rfl) (Nat.le_of_ble_eq_true rfl) (Nat.le_refl _) rfl rfl dX7_openThese_1 ?_
  refine z_bipush (v := (7 : Int32)) C0 dX7_openThese_4 (by decide) ?_
  refine z_mmin C0 rfl kM_RX7_25 kM_min (Nat.le_of_ble_eq_true rfl) (Nat.zero_le _) (Nat.zero_le _) dX7_openThese_6 ?_
  obtain ⟨x1, e_x1, h⟩ := zl_of h
  refine z_nm e_x1 ?_
  refine z_istore_n (lo1 := [(3, .int x1), (0, .ref (zb g + a0)), (1, .ref (zb g + a1)), (2, .int v2)]) C0 dX7_openThese_9 rfl (by decide) rfl ?_
  refine z_iload_n C0 dX7_openThese_10 rfl 0 rfl ?_
  refine z_istore (lo1 := [(4, .int x1), (3, .int x1), (0, .ref (zb g + a0)), (1, .ref (zb g + a1)), (2, .int v2)]) C0 dX7_openThese_11 (by decide) rfl ?_
  refine z_sub (lo1 := [(0, .ref (zb g + a0)), (1, .ref (zb g + a1)), (2, .int v2), (4, .int x1)]) [2, 3, 4, 0] rfl ?_
  obtain ⟨μ20, e_μ20, h⟩ := zbd_of h
  refine r_X7_openThese_L13 C0 hSp a0 a1 v2 hT0 hT1 zFU x1 μ μ20 e_μ20 ?_
  have h := Option.some.inj h
  obtain rfl := h
  exact z_vret C0 rfl dX7_openThese_101
def f_X7_tellsAll_L9 (a0 : Nat) (x1 : Int32) (μ4 : zM) : Nat → Int32 → Option ((Int32) ⊕ (Unit))
  | 0, _ => none
  | n + 1, y3 =>
    if x1 < y3 then
      some (.inr ())
    else
      zg (zin y3 256) <|
      zbd (if (μ4 (a0 + 2 + 1 * (8 : Int32).toNatClampNeg) (y3.toNatClampNeg)) ≤ 0 then
          some false
        else
          zg (zin (x1 ^^^ y3) 256) <|
          if (μ4 (a0 + 12 + 1 * (8 : Int32).toNatClampNeg) ((x1 ^^^ y3).toNatClampNeg)) ≤ (1 : Int32) then
            some false
          else
            some true) fun b18 =>
      if b18 = true then
        some (.inl (0 : Int32))
      else
        zl (y3 + (1 : Int32)) fun x19 =>
        f_X7_tellsAll_L9 a0 x1 μ4 n x19
def f_X7_tellsAll (a0 : Nat) (a1 : Nat) (μ : zM) : Option (Int32) :=
  zl ((f_X7_setsOf a1 μ) - (1 : Int32)) fun x1 =>
  zbd (f_X7_tellsAll_L9 a0 x1 μ zFU (0 : Int32)) fun q20 => zsum q20 (fun t => some t) fun _ =>
  some (1 : Int32)
set_option maxHeartbeats 4000000 in
set_option maxRecDepth 100000 in
theorem r_X7_tellsAll_L9 {l : Launch} {g : zL} {p : Program} {e : Env} {s : State} {m : MethodId} {args : Array Value} {below : List Frame} {meth : Method} {c : Code} {rv : Int32} (C0 : zC p s m args meth c g cX7_tellsAll yX7_tellsAll 4 (some (.boolean))) (a0 : Nat) (x1 : Int32) (μ4 : zM) (hU2 : zT zNN zσ1 a0 7) : ∀ (n : Nat) (y3 : Int32) (q : (Int32) ⊕ (Unit)), f_X7_tellsAll_L9 a0 x1 μ4 n y3 = some q → (∀ t, q = Sum.inl t → t = rv) → (∀ o, q = Sum.inr o → Z p l e (zrm 2 0 0) s m args below meth c g (MQ below (zQ g zNN zσ1 (some (.int rv)) μ4) args s 0 0 (zA g)) 4 zNN 0 0 zσ1 ((fun _ => μ4) o) 49 ((fun o => []) o) []) → Z p l e (zrm 2 0 0) s m args below meth c g (MQ below (zQ g zNN zσ1 (some (.int rv)) μ4) args s 0 0 (zA g)) 4 zNN 0 0 zσ1 μ4 9 [(0, .ref (zb g + a0)), (2, .int x1), (3, .int y3)] [] := by
  intro n
  induction n with
  | zero =>
    intro y3 q h kr kx
    rw [f_X7_tellsAll_L9] at h
    cases h
  | succ n ih =>
    intro y3 q h kr kx
    rw [f_X7_tellsAll_L9] at h
    refine z_iload_n C0 dX7_tellsAll_9 rfl 2 rfl ?_
    refine z_iload_n C0 dX7_tellsAll_10 rfl 1 rfl ?_
    refine z_icmp_gt C0 49 dX7_tellsAll_11 (by decide) (fun c5 => ?_) (fun c5 => ?_)
    · have h := zif_t c5 h
      refine z_sub (lo1 := []) [] rfl ?_
      exact kx () (Option.some.inj h).symm
    · have h := zif_f c5 h
      refine z_aload_n C0 dX7_tellsAll_14 rfl 0 rfl ?_
      refine z_getr C0 hU2 kf_7_13 zr_7_0 zx_7 (zs_7_0 hU2).1 dX7_tellsAll_15 ?_
      refine z_bipush (v := (8 : Int32)) C0 dX7_tellsAll_18 (by decide) ?_
      refine z_aald C0 (zs_7_0 hU2).2 (by decide) (by decide) (by decide : zin (8 : Int32) 9 = true) (ze_7_0 hU2 (by decide : zin (8 : Int32) 9 = true)).1 (ze_7_0 hU2 (by decide : zin (8 : Int32) 9 = true)).2.1 dX7_tellsAll_20 ?_
      refine z_iload_n C0 dX7_tellsAll_21 rfl 2 rfl ?_
      obtain ⟨g13, h⟩ := zg_of h
      refine z_iald C0 (ze_7_0 hU2 (by decide : zin (8 : Int32) 9 = true)).2.2 g13 rfl dX7_tellsAll_22 ?_
      obtain ⟨b18, e_b18, h⟩ := zbd_of h
      refine z_joinb b18 μ4 41 43 [(0, .ref (zb g + a0)), (2, .int x1), (3, .int y3)] [] (fun z23 => ?_) (fun z23 => ?_) (fun k21 k22 => ?_)
      · have h := zif_t z23 h
        refine z_iconst (v := (0 : Int32)) C0 dX7_tellsAll_41 (by decide) ?_
        have h := kr _ (Option.some.inj h).symm
        obtain rfl := h
        exact z_zret C0 rfl (by decide) dX7_tellsAll_42
      · have h := zif_f (fun q => Bool.noConfusion (z23.symm.trans q)) h
        obtain ⟨x19, e_x19, h⟩ := zl_of h
        refine z_iinc (lo1 := [(3, .int x19), (0, .ref (zb g + a0)), (2, .int x1)]) C0 dX7_tellsAll_43 2 rfl (by decide) e_x19.symm (by decide) rfl ?_
        refine z_goto C0 9 dX7_tellsAll_46 (by decide) ?_
        refine z_sub (lo1 := [(0, .ref (zb g + a0)), (2, .int x1), (3, .int x19)]) [1, 2, 0] rfl ?_
        exact ih _ _ h kr kx
      · have h := e_b18
        refine z_if_le C0 43 dX7_tellsAll_23 (by decide) (fun c14 => ?_) (fun c14 => ?_)
        · have h := zif_t c14 h
          exact k22 (Option.some.inj h).symm
        · have h := zif_f c14 h
          refine z_aload_n C0 dX7_tellsAll_26 rfl 0 rfl ?_
          refine z_getr C0 hU2 kf_7_16 zr_7_1 zx_7 (zs_7_1 hU2).1 dX7_tellsAll_27 ?_
          refine z_bipush (v := (8 : Int32)) C0 dX7_tellsAll_30 (by decide) ?_
          refine z_aald C0 (zs_7_1 hU2).2 (by decide) (by decide) (by decide : zin (8 : Int32) 9 = true) (ze_7_1 hU2 (by decide : zin (8 : Int32) 9 = true)).1 (ze_7_1 hU2 (by decide : zin (8 : Int32) 9 = true)).2.1 dX7_tellsAll_32 ?_
          refine z_iload_n C0 dX7_tellsAll_33 rfl 1 rfl ?_
          refine z_iload_n C0 dX7_tellsAll_34 rfl 2 rfl ?_
          refine z_ixor C0 dX7_tellsAll_35 ?_
          obtain ⟨g16, h⟩ := zg_of h
          refine z_iald C0 (ze_7_1 hU2 (by decide : zin (8 : Int32) 9 = true)).2.2 g16 rfl dX7_tellsAll_36 ?_
          refine z_iconst (v := (1 : Int32)) C0 dX7_tellsAll_37 (by decide) ?_
          refine z_icmp_le C0 43 dX7_tellsAll_38 (by decide) (fun c17 => ?_) (fun c17 => ?_)
          · have h := zif_t c17 h
            exact k22 (Option.some.inj h).symm
          · have h := zif_f c17 h
            exact k21 (Option.some.inj h).symm
set_option maxHeartbeats 4000000 in
set_option maxRecDepth 100000 in
theorem r_X7_tellsAll {l : Launch} {g : zL} (a0 : Nat) (a1 : Nat) (μ : zM) (hT0 : zT zNN zσ1 a0 7) (hT1 : zT zNN zσ1 a1 6) {rv : Int32} (h : f_X7_tellsAll a0 a1 μ = some rv) : zMet l g yX7_tellsAll cX7_tellsAll 4 (some (.boolean)) 2 0 0 zNN zNN zσ1 zσ1 [.ref (zb g + a0), .ref (zb g + a1)] μ (some (.int rv)) μ := by
  refine zMet.of (by decide +kernel) (Nat.le_of_ble_eq_true rfl) ?_
  intro p e s m args below meth c C0
  refine z_loc (lo1 := [(0, .ref (zb g + a0)), (1, .ref (zb g + a1))]) rfl ?_
  unfold f_X7_tellsAll at h
  refine z_aload_n C0 dX7_tellsAll_0 rfl 1 rfl ?_
  refine z_callS (As := [.ref (zb g + a1)]) (rest := []) C0 rfl kc_X7_setsOf km_RX7_56 (r_X7_setsOf (l := l) (g := g) a1 μ hT1 rfl) rfl (Nat.le_of_ble_eq_true rfl) (Nat.le_of_ble_eq_true rfl) (Nat.le_of_ble_eq_true rfl) (Nat.le_of_ble_eq_true rfl) (Nat.le_refl _) rfl rfl dX7_tellsAll_1 ?_
  refine z_iconst (v := (1 : Int32)) C0 dX7_tellsAll_4 (by decide) ?_
  refine z_isub C0 dX7_tellsAll_5 ?_
  obtain ⟨x1, e_x1, h⟩ := zl_of h
  refine z_nm e_x1 ?_
  refine z_istore_n (lo1 := [(2, .int x1), (0, .ref (zb g + a0)), (1, .ref (zb g + a1))]) C0 dX7_tellsAll_6 rfl (by decide) rfl ?_
  refine z_iconst (v := (0 : Int32)) C0 dX7_tellsAll_7 (by decide) ?_
  refine z_istore_n (lo1 := [(3, .int (0 : Int32)), (2, .int x1), (0, .ref (zb g + a0)), (1, .ref (zb g + a1))]) C0 dX7_tellsAll_8 rfl (by decide) rfl ?_
  refine z_sub (lo1 := [(0, .ref (zb g + a0)), (2, .int x1), (3, .int (0 : Int32))]) [2, 1, 0] rfl ?_
  obtain ⟨q20, e_q20, h⟩ := zbd_of h
  refine r_X7_tellsAll_L9 C0 a0 x1 μ hT0 zFU (0 : Int32) q20 e_q20 ?_ ?_
  · intro t ht
    have h := zsum_l h _ ht
    exact Option.some.inj h
  · intro u_ hq
    have h := zsum_r h _ hq
    refine z_iconst (v := (1 : Int32)) C0 dX7_tellsAll_49 (by decide) ?_
    have h := Option.some.inj h
    obtain rfl := h
    exact z_zret C0 rfl (by decide) dX7_tellsAll_50
def f_X7_dig_L34 (a0 : Nat) (a1 : Nat) : Nat → Int32 → Int32 → zM → Option (Int32 × zM)
  | 0, _, _, _ => none
  | n + 1, y8, y9, μ10 =>
    if (256 : Int32) ≤ y9 then
      some (y8, μ10)
    else
      zbd (f_X7_openThese a0 a1 y9 μ10) fun μ12 =>
      zbd (zbd (if (f_J6_bitCount_0f7a4 y8) ≤ (f_J6_bitCount_0f7a4 y9) then
            some false
          else
            zbd (f_X7_tellsAll a0 a1 μ12) fun r15 =>
            if r15 = 0 then
              some false
            else
              some true) fun b17 =>
        if b17 = true then
          some y9
        else
          some y8) fun x19 =>
      zl (y9 + (1 : Int32)) fun x20 =>
      f_X7_dig_L34 a0 a1 n x19 x20 μ12
def f_X7_dig (a0 : Nat) (a1 : Nat) (μ : zM) : Option (Int32 × zM) :=
  zbd2 (f_X7_ways a0 a1 μ) fun r1 μ2 =>
  if ¬ r1 = 0 then
    zbd (f_X7_begin (a0 + 2 + 1 * (0 : Int32).toNatClampNeg) μ2) fun μ4 =>
    zbd (f_X7_begin (a0 + 12 + 1 * (0 : Int32).toNatClampNeg) μ4) fun μ5 =>
    zbd2 (f_X7_dig_L34 a0 a1 zFU (255 : Int32) (0 : Int32) μ5) fun x21 μ22 =>
    some (x21, μ22)
  else
    some ((-1 : Int32), μ2)
set_option maxHeartbeats 4000000 in
set_option maxRecDepth 100000 in
theorem r_X7_dig_L34 {l : Launch} {g : zL} {κ : zK} {p : Program} {e : Env} {s : State} {m : MethodId} {args : Array Value} {below : List Frame} {meth : Method} {c : Code} {Q : State → Prop} (C0 : zC p s m args meth c g cX7_dig yX7_dig 4 (some (.int))) (hSp : zSK g κ) (a0 : Nat) (a1 : Nat) (hU6 : zT zNN zσ1 a0 7) (hU7 : zT zNN zσ1 a1 6) : ∀ (n : Nat) (y8 : Int32) (y9 : Int32) (μ10 : zM) (x21 : Int32) (μ22 : zM), f_X7_dig_L34 a0 a1 n y8 y9 μ10 = some (x21, μ22) → Z p l e (zrm 4 0 0) s m args below meth c g Q 4 zNN 0 0 zσ1 μ22 74 [(2, .int x21)] [] → Z p l e (zrm 4 0 0) s m args below meth c g Q 4 zNN 0 0 zσ1 μ10 34 [(0, .ref (zb g + a0)), (1, .ref (zb g + a1)), (2, .int y8), (3, .int y9)] [] := by
  have hF := hSp.at C0
  intro n
  induction n with
  | zero =>
    intro y8 y9 μ10 x21 μ22 h kx
    rw [f_X7_dig_L34] at h
    cases h
  | succ n ih =>
    intro y8 y9 μ10 x21 μ22 h kx
    rw [f_X7_dig_L34] at h
    refine z_iload_n C0 dX7_dig_34 rfl 3 rfl ?_
    refine z_sipush (v := (256 : Int32)) C0 dX7_dig_35 (by decide) ?_
    refine z_icmp_ge C0 74 dX7_dig_38 (by decide) (fun c11 => ?_) (fun c11 => ?_)
    · have h := zif_t c11 h
      refine z_sub (lo1 := [(2, .int y8)]) [2] rfl ?_
      obtain ⟨rfl, rfl⟩ := Prod.mk.inj (Option.some.inj h)
      exact kx
    · have h := zif_f c11 h
      refine z_aload_n C0 dX7_dig_41 rfl 0 rfl ?_
      refine z_aload_n C0 dX7_dig_42 rfl 1 rfl ?_
      refine z_iload_n C0 dX7_dig_43 rfl 3 rfl ?_
      obtain ⟨μ12, e_μ12, h⟩ := zbd_of h
      refine z_callV (As := [.ref (zb g + a1), .int y9]) (rest := []) C0 rfl kc_X7_openThese km_RX7_80 (r_X7_openThese (l := l) (g := g) a0 a1 y9 μ10 hU6 hU7 hSp e_μ12) hU6.1 hU6.2.2.1 rfl (by decide) rfl (Nat.le_of_ble_eq_true rfl) (Nat.le_of_ble_eq_true rfl) (Nat.le_of_ble_eq_true rfl) (Nat.le_of_ble_eq_true rfl) (Nat.le_refl _) rfl rfl dX7_dig_44 ?_
      refine z_iload_n C0 dX7_dig_47 rfl 3 rfl ?_
      refine z_callS (As := [.int y9]) (rest := []) C0 rfl kc_J6_bitCount_0f7a4 km_RX7_68 (r_J6_bitCount_0f7a4 (l := l) (g := g) (μ := μ12) y9 rfl) rfl (Nat.le_of_ble_eq_true rfl) (Nat.le_of_ble_eq_true rfl) (Nat.le_of_ble_eq_true rfl) (Nat.le_of_ble_eq_true rfl) (Nat.le_refl _) rfl rfl dX7_dig_48 ?_
      refine z_iload_n C0 dX7_dig_51 rfl 2 rfl ?_
      refine z_callS (As := [.int y8]) (rest := [.int (f_J6_bitCount_0f7a4 y9)]) C0 rfl kc_J6_bitCount_0f7a4 km_RX7_68 (r_J6_bitCount_0f7a4 (l := l) (g := g) (μ := μ12) y8 rfl) rfl (Nat.le_of_ble_eq_true rfl) (Nat.le_of_ble_eq_true rfl) (Nat.le_of_ble_eq_true rfl) (Nat.le_of_ble_eq_true rfl) (Nat.le_refl _) rfl rfl dX7_dig_52 ?_
      obtain ⟨x19, e_x19, h⟩ := zbd_of h
      refine z_join μ12 68 [(0, .ref (zb g + a0)), (1, .ref (zb g + a1)), (2, .int x19), (3, .int y9)] [] ?_ (fun k_J18 => ?_)
      · obtain ⟨x20, e_x20, h⟩ := zl_of h
        refine z_iinc (lo1 := [(3, .int x20), (0, .ref (zb g + a0)), (1, .ref (zb g + a1)), (2, .int x19)]) C0 dX7_dig_68 3 rfl (by decide) e_x20.symm (by decide) rfl ?_
        refine z_goto C0 34 dX7_dig_71 (by decide) ?_
        refine z_sub (lo1 := [(0, .ref (zb g + a0)), (1, .ref (zb g + a1)), (2, .int x19), (3, .int x20)]) [1, 2, 3, 0] rfl ?_
        exact ih _ _ _ _ _ h kx
      · have h := e_x19
        obtain ⟨b17, e_b17, h⟩ := zbd_of h
        refine z_joinb b17 μ12 66 68 [(0, .ref (zb g + a0)), (1, .ref (zb g + a1)), (2, .int y8), (3, .int y9)] [] (fun z25 => ?_) (fun z25 => ?_) (fun k23 k24 => ?_)
        · have h := zif_t z25 h
          refine z_iload_n C0 dX7_dig_66 rfl 3 rfl ?_
          refine z_istore_n (lo1 := [(2, .int y9), (0, .ref (zb g + a0)), (1, .ref (zb g + a1)), (3, .int y9)]) C0 dX7_dig_67 rfl (by decide) rfl ?_
          refine z_sub (lo1 := [(0, .ref (zb g + a0)), (1, .ref (zb g + a1)), (2, .int y9), (3, .int y9)]) [1, 2, 0, 3] rfl ?_
          obtain rfl := (Option.some.inj h)
          exact k_J18
        · have h := zif_f (fun q => Bool.noConfusion (z25.symm.trans q)) h
          obtain rfl := (Option.some.inj h)
          exact k_J18
        · have h := e_b17
          refine z_icmp_ge C0 68 dX7_dig_55 (by decide) (fun c13 => ?_) (fun c13 => ?_)
          · have h := zif_t c13 h
            exact k24 (Option.some.inj h).symm
          · have h := zif_f c13 h
            refine z_aload_n C0 dX7_dig_58 rfl 0 rfl ?_
            refine z_aload_n C0 dX7_dig_59 rfl 1 rfl ?_
            obtain ⟨r15, e_r15, h⟩ := zbd_of h
            refine z_callV (As := [.ref (zb g + a1)]) (rest := []) C0 rfl kc_X7_tellsAll km_RX7_84 (r_X7_tellsAll (l := l) (g := g) a0 a1 μ12 hU6 hU7 e_r15) hU6.1 hU6.2.2.1 rfl (by decide) rfl (Nat.le_of_ble_eq_true rfl) (Nat.le_of_ble_eq_true rfl) (Nat.le_of_ble_eq_true rfl) (Nat.le_of_ble_eq_true rfl) (Nat.le_refl _) rfl rfl dX7_dig_60 ?_
            refine z_if_eq C0 68 dX7_dig_63 (by decide) (fun c16 => ?_) (fun c16 => ?_)
            · have h := zif_t c16 h
              exact k24 (Option.some.inj h).symm
            · have h := zif_f c16 h
              exact k23 (Option.some.inj h).symm
set_option maxHeartbeats 4000000 in
set_option maxRecDepth 100000 in
theorem r_X7_dig {l : Launch} {g : zL} {κ : zK} (a0 : Nat) (a1 : Nat) (μ : zM) (hT0 : zT zNN zσ1 a0 7) (hT1 : zT zNN zσ1 a1 6) (hSp : zSK g κ) {rv : Int32} {μr : zM} (h : f_X7_dig a0 a1 μ = some (rv, μr)) : zMet l g yX7_dig cX7_dig 4 (some (.int)) 4 0 0 zNN zNN zσ1 zσ1 [.ref (zb g + a0), .ref (zb g + a1)] μ (some (.int rv)) μr := by
  refine zMet.of (by decide +kernel) (Nat.le_of_ble_eq_true rfl) ?_
  intro p e s m args below meth c C0
  have hF := hSp.at C0
  refine z_loc (lo1 := [(0, .ref (zb g + a0)), (1, .ref (zb g + a1))]) rfl ?_
  unfold f_X7_dig at h
  refine z_aload_n C0 dX7_dig_0 rfl 0 rfl ?_
  refine z_aload_n C0 dX7_dig_1 rfl 1 rfl ?_
  obtain ⟨r1, μ2, e_r1, h⟩ := zbd2_of h
  refine z_callV (As := [.ref (zb g + a1)]) (rest := []) C0 rfl kc_X7_ways km_RX7_77 (r_X7_ways (l := l) (g := g) a0 a1 μ hT0 hT1 hSp e_r1) hT0.1 hT0.2.2.1 rfl (by decide) rfl (Nat.le_of_ble_eq_true rfl) (Nat.le_of_ble_eq_true rfl) (Nat.le_of_ble_eq_true rfl) (Nat.le_of_ble_eq_true rfl) (Nat.le_refl _) rfl rfl dX7_dig_2 ?_
  refine z_if_ne C0 10 dX7_dig_5 (by decide) (fun c3 => ?_) (fun c3 => ?_)
  · have h := zif_t c3 h
    refine z_aload_n C0 dX7_dig_10 rfl 0 rfl ?_
    refine z_getr C0 hT0 kf_7_13 zr_7_0 zx_7 (zs_7_0 hT0).1 dX7_dig_11 ?_
    refine z_iconst (v := (0 : Int32)) C0 dX7_dig_14 (by decide) ?_
    refine z_aald C0 (zs_7_0 hT0).2 (by decide) (by decide) (by decide : zin (0 : Int32) 9 = true) (ze_7_0 hT0 (by decide : zin (0 : Int32) 9 = true)).1 (ze_7_0 hT0 (by decide : zin (0 : Int32) 9 = true)).2.1 dX7_dig_15 ?_
    obtain ⟨μ4, e_μ4, h⟩ := zbd_of h
    refine z_callS (As := [.ref (zb g + (a0 + 2 + 1 * (0 : Int32).toNatClampNeg))]) (rest := []) C0 rfl kc_X7_begin km_RX7_48 (r_X7_begin (l := l) (g := g) (a0 + 2 + 1 * (0 : Int32).toNatClampNeg) μ2 (zAr_ln (ze_7_0 hT0 (by decide : zin (0 : Int32) 9 = true)).2.2) e_μ4) rfl (Nat.le_of_ble_eq_true rfl) (Nat.le_of_ble_eq_true rfl) (Nat.le_of_ble_eq_true rfl) (Nat.le_of_ble_eq_true rfl) (Nat.le_refl _) rfl rfl dX7_dig_16 ?_
    refine z_aload_n C0 dX7_dig_19 rfl 0 rfl ?_
    refine z_getr C0 hT0 kf_7_16 zr_7_1 zx_7 (zs_7_1 hT0).1 dX7_dig_20 ?_
    refine z_iconst (v := (0 : Int32)) C0 dX7_dig_23 (by decide) ?_
    refine z_aald C0 (zs_7_1 hT0).2 (by decide) (by decide) (by decide : zin (0 : Int32) 9 = true) (ze_7_1 hT0 (by decide : zin (0 : Int32) 9 = true)).1 (ze_7_1 hT0 (by decide : zin (0 : Int32) 9 = true)).2.1 dX7_dig_24 ?_
    obtain ⟨μ5, e_μ5, h⟩ := zbd_of h
    refine z_callS (As := [.ref (zb g + (a0 + 12 + 1 * (0 : Int32).toNatClampNeg))]) (rest := []) C0 rfl kc_X7_begin km_RX7_48 (r_X7_begin (l := l) (g := g) (a0 + 12 + 1 * (0 : Int32).toNatClampNeg) μ4 (zAr_ln (ze_7_1 hT0 (by decide : zin (0 : Int32) 9 = true)).2.2) e_μ5) rfl (Nat.le_of_ble_eq_true rfl) (Nat.le_of_ble_eq_true rfl) (Nat.le_of_ble_eq_true rfl) (Nat.le_of_ble_eq_true rfl) (Nat.le_refl _) rfl rfl dX7_dig_25 ?_
    refine z_sipush (v := (255 : Int32)) C0 dX7_dig_28 (by decide) ?_
    refine z_istore_n (lo1 := [(2, .int (255 : Int32)), (0, .ref (zb g + a0)), (1, .ref (zb g + a1))]) C0 dX7_dig_31 rfl (by decide) rfl ?_
    refine z_iconst (v := (0 : Int32)) C0 dX7_dig_32 (by decide) ?_
    refine z_istore_n (lo1 := [(3, .int (0 : Int32)), (2, .int (255 : Int32)), (0, .ref (zb g + a0)), (1, .ref (zb g + a1))]) C0 dX7_dig_33 rfl (by decide) rfl ?_
    refine z_sub (lo1 := [(0, .ref (zb g + a0)), (1, .ref (zb g + a1)), (2, .int (255 : Int32)), (3, .int (0 : Int32))]) [2, 3, 1, 0] rfl ?_
    obtain ⟨x21, μ22, e_x21, h⟩ := zbd2_of h
    refine r_X7_dig_L34 C0 hSp a0 a1 hT0 hT1 zFU (255 : Int32) (0 : Int32) μ5 x21 μ22 e_x21 ?_
    refine z_iload_n C0 dX7_dig_74 rfl 0 rfl ?_
    have h := Option.some.inj h
    obtain ⟨rfl, rfl⟩ := Prod.mk.inj h
    exact z_iret C0 rfl dX7_dig_75
  · have h := zif_f (fun q => q c3) h
    refine z_iconst (v := (-1 : Int32)) C0 dX7_dig_8 (by decide) ?_
    have h := Option.some.inj h
    obtain ⟨rfl, rfl⟩ := Prod.mk.inj h
    exact z_iret C0 rfl dX7_dig_9
def f_X7_graves_L17 (a0 : Nat) (a1 : Nat) (v2 : Int32) (x1 : Int32) : Nat → Int32 → Int32 → zM → Option (Int32 × zM)
  | 0, _, _, _ => none
  | n + 1, y4, y5, μ6 =>
    if (8 : Int32) ≤ y5 then
      some (y4, μ6)
    else
      zbd (f_X6_number a1 v2 (0 : Int32) μ6) fun r12 =>
      zbd2 (if ¬ ((r12 >>> (y5 &&& 31)) &&& (1 : Int32)) = (1 : Int32) then
          some (y4, μ6)
        else
          zbd2 (f_X7_waysWithout a0 a1 x1 y5 μ6) fun r15 μ16 =>
          if r15 ≤ 0 then
            some (y4, μ16)
          else
            zl (y4 ||| ((1 : Int32) <<< (y5 &&& 31))) fun x18 =>
            some (x18, μ16)) fun x19 μ20 =>
      zl (y5 + (1 : Int32)) fun x21 =>
      f_X7_graves_L17 a0 a1 v2 x1 n x19 x21 μ20
def f_X7_graves (a0 : Nat) (a1 : Nat) (v2 : Int32) (μ : zM) : Option (Int32 × zM) :=
  zl (((f_X7_setsOf a1 μ) - (1 : Int32)) ^^^ ((1 : Int32) <<< (v2 &&& 31))) fun x1 =>
  zbd2 (f_X7_graves_L17 a0 a1 v2 x1 zFU (0 : Int32) (0 : Int32) μ) fun x22 μ23 =>
  some (x22, μ23)
set_option maxHeartbeats 4000000 in
set_option maxRecDepth 100000 in
theorem r_X7_graves_L17 {l : Launch} {g : zL} {κ : zK} {p : Program} {e : Env} {s : State} {m : MethodId} {args : Array Value} {below : List Frame} {meth : Method} {c : Code} {Q : State → Prop} (C0 : zC p s m args meth c g cX7_graves yX7_graves 6 (some (.int))) (hSp : zSK g κ) (a0 : Nat) (a1 : Nat) (v2 : Int32) (x1 : Int32) (hU2 : zT zNN zσ1 a0 7) (hU3 : zT zNN zσ1 a1 6) : ∀ (n : Nat) (y4 : Int32) (y5 : Int32) (μ6 : zM) (x22 : Int32) (μ23 : zM), f_X7_graves_L17 a0 a1 v2 x1 n y4 y5 μ6 = some (x22, μ23) → Z p l e (zrm 3 0 0) s m args below meth c g Q 6 zNN 0 0 zσ1 μ23 64 [(4, .int x22)] [] → Z p l e (zrm 3 0 0) s m args below meth c g Q 6 zNN 0 0 zσ1 μ6 17 [(0, .ref (zb g + a0)), (1, .ref (zb g + a1)), (2, .int v2), (3, .int x1), (4, .int y4), (5, .int y5)] [] := by
  have hF := hSp.at C0
  intro n
  induction n with
  | zero =>
    intro y4 y5 μ6 x22 μ23 h kx
    rw [f_X7_graves_L17] at h
    cases h
  | succ n ih =>
    intro y4 y5 μ6 x22 μ23 h kx
    rw [f_X7_graves_L17] at h
    refine z_iload C0 dX7_graves_17 5 rfl ?_
    refine z_bipush (v := (8 : Int32)) C0 dX7_graves_19 (by decide) ?_
    refine z_icmp_ge C0 64 dX7_graves_21 (by decide) (fun c7 => ?_) (fun c7 => ?_)
    · have h := zif_t c7 h
      refine z_sub (lo1 := [(4, .int y4)]) [4] rfl ?_
      obtain ⟨rfl, rfl⟩ := Prod.mk.inj (Option.some.inj h)
      exact kx
    · have h := zif_f c7 h
      refine z_aload_n C0 dX7_graves_24 rfl 1 rfl ?_
      refine z_iload_n C0 dX7_graves_25 rfl 2 rfl ?_
      refine z_iconst (v := (0 : Int32)) C0 dX7_graves_26 (by decide) ?_
      obtain ⟨r12, e_r12, h⟩ := zbd_of h
      refine z_callV (As := [.int v2, .int (0 : Int32)]) (rest := []) C0 rfl kc_X6_number km_RX7_37 (r_X6_number (l := l) (g := g) a1 v2 (0 : Int32) μ6 hU3 e_r12) hU3.1 hU3.2.2.1 rfl (by decide) rfl (Nat.le_of_ble_eq_true rfl) (Nat.le_of_ble_eq_true rfl) (Nat.le_of_ble_eq_true rfl) (Nat.le_of_ble_eq_true rfl) (Nat.le_refl _) rfl rfl dX7_graves_27 ?_
      refine z_iload C0 dX7_graves_30 5 rfl ?_
      refine z_callSN (As := [.int r12, .int y5]) (rest := []) C0 rfl kc_X11_isIn (hF.2.2.2.2.2.2.2.1 _ (List.mem_of_getElem? (i := 11) rfl)) (r_X11_isIn (l := l) (g := g) (μ := μ6) r12 y5 rfl) rfl (Nat.le_of_ble_eq_true rfl) (Nat.le_of_ble_eq_true rfl) (Nat.le_of_ble_eq_true rfl) (Nat.le_of_ble_eq_true rfl) rfl rfl dX7_graves_32 ?_
      obtain ⟨x19, μ20, e_x19, h⟩ := zbd2_of h
      refine z_join μ20 58 [(0, .ref (zb g + a0)), (1, .ref (zb g + a1)), (2, .int v2), (3, .int x1), (4, .int x19), (5, .int y5)] [] ?_ (fun k_J14 => ?_)
      · obtain ⟨x21, e_x21, h⟩ := zl_of h
        refine z_iinc (lo1 := [(5, .int x21), (0, .ref (zb g + a0)), (1, .ref (zb g + a1)), (2, .int v2), (3, .int x1), (4, .int x19)]) C0 dX7_graves_58 5 rfl (by decide) e_x21.symm (by decide) rfl ?_
        refine z_goto C0 17 dX7_graves_61 (by decide) ?_
        refine z_sub (lo1 := [(0, .ref (zb g + a0)), (1, .ref (zb g + a1)), (2, .int v2), (3, .int x1), (4, .int x19), (5, .int x21)]) [1, 2, 3, 4, 5, 0] rfl ?_
        exact ih _ _ _ _ _ h kx
      · have h := e_x19
        refine z_if_eqI C0 58 dX7_graves_35 (by decide) (fun c13 => ?_) (fun c13 => ?_)
        · have h := zif_t c13 h
          obtain ⟨rfl, rfl⟩ := Prod.mk.inj (Option.some.inj h)
          exact k_J14
        · have h := zif_f (fun q => q c13) h
          refine z_aload_n C0 dX7_graves_38 rfl 0 rfl ?_
          refine z_aload_n C0 dX7_graves_39 rfl 1 rfl ?_
          refine z_iload_n C0 dX7_graves_40 rfl 3 rfl ?_
          refine z_iload C0 dX7_graves_41 5 rfl ?_
          obtain ⟨r15, μ16, e_r15, h⟩ := zbd2_of h
          refine z_callV (As := [.ref (zb g + a1), .int x1, .int y5]) (rest := []) C0 rfl kc_X7_waysWithout km_RX7_60 (r_X7_waysWithout (l := l) (g := g) a0 a1 x1 y5 μ6 hU2 hU3 hSp e_r15) hU2.1 hU2.2.2.1 rfl (by decide) rfl (Nat.le_of_ble_eq_true rfl) (Nat.le_of_ble_eq_true rfl) (Nat.le_of_ble_eq_true rfl) (Nat.le_of_ble_eq_true rfl) (Nat.le_refl _) rfl rfl dX7_graves_43 ?_
          refine z_if_le C0 58 dX7_graves_46 (by decide) (fun c17 => ?_) (fun c17 => ?_)
          · have h := zif_t c17 h
            obtain ⟨rfl, rfl⟩ := Prod.mk.inj (Option.some.inj h)
            exact k_J14
          · have h := zif_f c17 h
            refine z_iload C0 dX7_graves_49 4 rfl ?_
            refine z_iconst (v := (1 : Int32)) C0 dX7_graves_51 (by decide) ?_
            refine z_iload C0 dX7_graves_52 5 rfl ?_
            refine z_ishl C0 dX7_graves_54 ?_
            refine z_ior C0 dX7_graves_55 ?_
            obtain ⟨x18, e_x18, h⟩ := zl_of h
            refine z_nm e_x18 ?_
            refine z_istore (lo1 := [(4, .int x18), (0, .ref (zb g + a0)), (1, .ref (zb g + a1)), (2, .int v2), (3, .int x1), (5, .int y5)]) C0 dX7_graves_56 (by decide) rfl ?_
            refine z_sub (lo1 := [(0, .ref (zb g + a0)), (1, .ref (zb g + a1)), (2, .int v2), (3, .int x1), (4, .int x18), (5, .int y5)]) [1, 2, 3, 4, 0, 5] rfl ?_
            obtain ⟨rfl, rfl⟩ := Prod.mk.inj (Option.some.inj h)
            exact k_J14
set_option maxHeartbeats 4000000 in
set_option maxRecDepth 100000 in
theorem r_X7_graves {l : Launch} {g : zL} {κ : zK} (a0 : Nat) (a1 : Nat) (v2 : Int32) (μ : zM) (hT0 : zT zNN zσ1 a0 7) (hT1 : zT zNN zσ1 a1 6) (hSp : zSK g κ) {rv : Int32} {μr : zM} (h : f_X7_graves a0 a1 v2 μ = some (rv, μr)) : zMet l g yX7_graves cX7_graves 6 (some (.int)) 3 0 0 zNN zNN zσ1 zσ1 [.ref (zb g + a0), .ref (zb g + a1), .int v2] μ (some (.int rv)) μr := by
  refine zMet.of (by decide +kernel) (Nat.le_of_ble_eq_true rfl) ?_
  intro p e s m args below meth c C0
  have hF := hSp.at C0
  refine z_loc (lo1 := [(0, .ref (zb g + a0)), (1, .ref (zb g + a1)), (2, .int v2)]) rfl ?_
  unfold f_X7_graves at h
  refine z_aload_n C0 dX7_graves_0 rfl 1 rfl ?_
  refine z_callS (As := [.ref (zb g + a1)]) (rest := []) C0 rfl kc_X7_setsOf km_RX7_56 (r_X7_setsOf (l := l) (g := g) a1 μ hT1 rfl) rfl (Nat.le_of_ble_eq_true rfl) (Nat.le_of_ble_eq_true rfl) (Nat.le_of_ble_eq_true rfl) (Nat.le_of_ble_eq_true rfl) (Nat.le_refl _) rfl rfl dX7_graves_1 ?_
  refine z_iconst (v := (1 : Int32)) C0 dX7_graves_4 (by decide) ?_
  refine z_isub C0 dX7_graves_5 ?_
  refine z_iconst (v := (1 : Int32)) C0 dX7_graves_6 (by decide) ?_
  refine z_iload_n C0 dX7_graves_7 rfl 2 rfl ?_
  refine z_ishl C0 dX7_graves_8 ?_
  refine z_ixor C0 dX7_graves_9 ?_
  obtain ⟨x1, e_x1, h⟩ := zl_of h
  refine z_nm e_x1 ?_
  refine z_istore_n (lo1 := [(3, .int x1), (0, .ref (zb g + a0)), (1, .ref (zb g + a1)), (2, .int v2)]) C0 dX7_graves_10 rfl (by decide) rfl ?_
  refine z_iconst (v := (0 : Int32)) C0 dX7_graves_11 (by decide) ?_
  refine z_istore (lo1 := [(4, .int (0 : Int32)), (3, .int x1), (0, .ref (zb g + a0)), (1, .ref (zb g + a1)), (2, .int v2)]) C0 dX7_graves_12 (by decide) rfl ?_
  refine z_iconst (v := (0 : Int32)) C0 dX7_graves_14 (by decide) ?_
  refine z_istore (lo1 := [(5, .int (0 : Int32)), (4, .int (0 : Int32)), (3, .int x1), (0, .ref (zb g + a0)), (1, .ref (zb g + a1)), (2, .int v2)]) C0 dX7_graves_15 (by decide) rfl ?_
  refine z_sub (lo1 := [(0, .ref (zb g + a0)), (1, .ref (zb g + a1)), (2, .int v2), (3, .int x1), (4, .int (0 : Int32)), (5, .int (0 : Int32))]) [3, 4, 5, 2, 1, 0] rfl ?_
  obtain ⟨x22, μ23, e_x22, h⟩ := zbd2_of h
  refine r_X7_graves_L17 C0 hSp a0 a1 v2 x1 hT0 hT1 zFU (0 : Int32) (0 : Int32) μ x22 μ23 e_x22 ?_
  refine z_iload C0 dX7_graves_64 0 rfl ?_
  have h := Option.some.inj h
  obtain ⟨rfl, rfl⟩ := Prod.mk.inj h
  exact z_iret C0 rfl dX7_graves_66
def f_X7_sureGrave (a0 : Nat) (a1 : Nat) (v2 : Int32) (μ : zM) : Option (Int32 × zM) :=
  zbd2 (f_X7_graves a0 a1 v2 μ) fun r1 μ2 =>
  zl (if ¬ (f_J6_bitCount_0f7a4 r1) = (1 : Int32) then
      (-1 : Int32)
    else
      (f_J6_numberOfTrailingZeros_0f7a4 r1)) fun x5 =>
  some (x5, μ2)
set_option maxHeartbeats 4000000 in
set_option maxRecDepth 100000 in
theorem r_X7_sureGrave {l : Launch} {g : zL} {κ : zK} (a0 : Nat) (a1 : Nat) (v2 : Int32) (μ : zM) (hT0 : zT zNN zσ1 a0 7) (hT1 : zT zNN zσ1 a1 6) (hSp : zSK g κ) {rv : Int32} {μr : zM} (h : f_X7_sureGrave a0 a1 v2 μ = some (rv, μr)) : zMet l g yX7_sureGrave cX7_sureGrave 4 (some (.int)) 4 0 0 zNN zNN zσ1 zσ1 [.ref (zb g + a0), .ref (zb g + a1), .int v2] μ (some (.int rv)) μr := by
  refine zMet.of (by decide +kernel) (Nat.le_of_ble_eq_true rfl) ?_
  intro p e s m args below meth c C0
  have hF := hSp.at C0
  refine z_loc (lo1 := [(0, .ref (zb g + a0)), (1, .ref (zb g + a1)), (2, .int v2)]) rfl ?_
  unfold f_X7_sureGrave at h
  refine z_aload_n C0 dX7_sureGrave_0 rfl 0 rfl ?_
  refine z_aload_n C0 dX7_sureGrave_1 rfl 1 rfl ?_
  refine z_iload_n C0 dX7_sureGrave_2 rfl 2 rfl ?_
  obtain ⟨r1, μ2, e_r1, h⟩ := zbd2_of h
  refine z_callV (As := [.ref (zb g + a1), .int v2]) (rest := []) C0 rfl kc_X7_graves km_RX7_64 (r_X7_graves (l := l) (g := g) a0 a1 v2 μ hT0 hT1 hSp e_r1) hT0.1 hT0.2.2.1 rfl (by decide) rfl (Nat.le_of_ble_eq_true rfl) (Nat.le_of_ble_eq_true rfl) (Nat.le_of_ble_eq_true rfl) (Nat.le_of_ble_eq_true rfl) (Nat.le_refl _) rfl rfl dX7_sureGrave_3 ?_
  refine z_istore_n (lo1 := [(3, .int r1), (0, .ref (zb g + a0)), (1, .ref (zb g + a1)), (2, .int v2)]) C0 dX7_sureGrave_6 rfl (by decide) rfl ?_
  refine z_iload_n C0 dX7_sureGrave_7 rfl 0 rfl ?_
  refine z_callS (As := [.int r1]) (rest := []) C0 rfl kc_J6_bitCount_0f7a4 km_RX7_68 (r_J6_bitCount_0f7a4 (l := l) (g := g) (μ := μ2) r1 rfl) rfl (Nat.le_of_ble_eq_true rfl) (Nat.le_of_ble_eq_true rfl) (Nat.le_of_ble_eq_true rfl) (Nat.le_of_ble_eq_true rfl) (Nat.le_refl _) rfl rfl dX7_sureGrave_8 ?_
  refine z_iconst (v := (1 : Int32)) C0 dX7_sureGrave_11 (by decide) ?_
  obtain ⟨x5, e_x5, h⟩ := zl_of h
  refine z_join μ2 23 [] [.int x5] ?_ (fun k_J4 => ?_)
  · have h := Option.some.inj h
    obtain ⟨rfl, rfl⟩ := Prod.mk.inj h
    exact z_iret C0 rfl dX7_sureGrave_23
  · have h := e_x5.symm
    refine z_icmp_ne C0 22 dX7_sureGrave_12 (by decide) (fun c3 => ?_) (fun c3 => ?_)
    · have h := zif_t c3 h
      refine z_iconst (v := (-1 : Int32)) C0 dX7_sureGrave_22 (by decide) ?_
      refine z_sub (lo1 := []) [] rfl ?_
      obtain rfl := h
      exact k_J4
    · have h := zif_f (fun q => q c3) h
      refine z_iload_n C0 dX7_sureGrave_15 rfl 0 rfl ?_
      refine z_callS (As := [.int r1]) (rest := []) C0 rfl kc_J6_numberOfTrailingZeros_0f7a4 km_RX7_74 (r_J6_numberOfTrailingZeros_0f7a4 (l := l) (g := g) (μ := μ2) r1 rfl) rfl (Nat.le_of_ble_eq_true rfl) (Nat.le_of_ble_eq_true rfl) (Nat.le_of_ble_eq_true rfl) (Nat.le_of_ble_eq_true rfl) (Nat.le_refl _) rfl rfl dX7_sureGrave_16 ?_
      refine z_goto C0 23 dX7_sureGrave_19 (by decide) ?_
      refine z_sub (lo1 := []) [] rfl ?_
      obtain rfl := h
      exact k_J4
def f_X3_rests_L11 (a0 : Nat) (v1 : Int32) (x1 : Int32) (x2 : Int32) (μ5 : zM) : Nat → Int32 → Option ((Int32) ⊕ (Unit))
  | 0, _ => none
  | n + 1, y4 =>
    if (3 : Int32) ≤ y4 then
      some (.inr ())
    else
      zbd (f_X3_gainOf a0 ((y4 * (3 : Int32)) + x2) (0 : Int32) μ5) fun r19 =>
      zbd (f_X3_gainOf a0 v1 (0 : Int32) μ5) fun r20 =>
      zbd (if r20 < r19 then
          some false
        else
          zbd (f_X3_gainOf a0 ((x1 * (3 : Int32)) + y4) (1 : Int32) μ5) fun r24 =>
          zbd (f_X3_gainOf a0 v1 (1 : Int32) μ5) fun r25 =>
          if r24 ≤ r25 then
            some true
          else
            some false) fun b27 =>
      if b27 = true then
        zl (y4 + (1 : Int32)) fun x28 =>
        f_X3_rests_L11 a0 v1 x1 x2 μ5 n x28
      else
        some (.inl (0 : Int32))
def f_X3_rests (a0 : Nat) (v1 : Int32) (μ : zM) : Option (Int32) :=
  zl (v1 / (3 : Int32)) fun x1 =>
  zl (v1 % (3 : Int32)) fun x2 =>
  zbd (f_X3_rests_L11 a0 v1 x1 x2 μ zFU (0 : Int32)) fun q29 => zsum q29 (fun t => some t) fun _ =>
  some (1 : Int32)
set_option maxHeartbeats 4000000 in
set_option maxRecDepth 100000 in
theorem r_X3_rests_L11 {l : Launch} {g : zL} {p : Program} {e : Env} {s : State} {m : MethodId} {args : Array Value} {below : List Frame} {meth : Method} {c : Code} {rv : Int32} (C0 : zC p s m args meth c g cX3_rests yX3_rests 5 (some (.boolean))) (a0 : Nat) (v1 : Int32) (x1 : Int32) (x2 : Int32) (μ5 : zM) (hU3 : zT zNN zσ1 a0 3) : ∀ (n : Nat) (y4 : Int32) (q : (Int32) ⊕ (Unit)), f_X3_rests_L11 a0 v1 x1 x2 μ5 n y4 = some q → (∀ t, q = Sum.inl t → t = rv) → (∀ o, q = Sum.inr o → Z p l e (zrm 1 0 0) s m args below meth c g (MQ below (zQ g zNN zσ1 (some (.int rv)) μ5) args s 0 0 (zA g)) 5 zNN 0 0 zσ1 ((fun _ => μ5) o) 65 ((fun o => []) o) []) → Z p l e (zrm 1 0 0) s m args below meth c g (MQ below (zQ g zNN zσ1 (some (.int rv)) μ5) args s 0 0 (zA g)) 5 zNN 0 0 zσ1 μ5 11 [(0, .ref (zb g + a0)), (1, .int v1), (2, .int x1), (3, .int x2), (4, .int y4)] [] := by
  intro n
  induction n with
  | zero =>
    intro y4 q h kr kx
    rw [f_X3_rests_L11] at h
    cases h
  | succ n ih =>
    intro y4 q h kr kx
    rw [f_X3_rests_L11] at h
    refine z_iload C0 dX3_rests_11 4 rfl ?_
    refine z_iconst (v := (3 : Int32)) C0 dX3_rests_13 (by decide) ?_
    refine z_icmp_ge C0 65 dX3_rests_14 (by decide) (fun c6 => ?_) (fun c6 => ?_)
    · have h := zif_t c6 h
      refine z_sub (lo1 := []) [] rfl ?_
      exact kx () (Option.some.inj h).symm
    · have h := zif_f c6 h
      refine z_aload_n C0 dX3_rests_17 rfl 0 rfl ?_
      refine z_iload C0 dX3_rests_18 4 rfl ?_
      refine z_iconst (v := (3 : Int32)) C0 dX3_rests_20 (by decide) ?_
      refine z_imul C0 dX3_rests_21 ?_
      refine z_iload_n C0 dX3_rests_22 rfl 3 rfl ?_
      refine z_iadd C0 dX3_rests_23 ?_
      refine z_iconst (v := (0 : Int32)) C0 dX3_rests_24 (by decide) ?_
      obtain ⟨r19, e_r19, h⟩ := zbd_of h
      refine z_callV (As := [.int ((y4 * (3 : Int32)) + x2), .int (0 : Int32)]) (rest := []) C0 rfl kc_X3_gainOf km_RX3_54 (r_X3_gainOf (l := l) (g := g) a0 ((y4 * (3 : Int32)) + x2) (0 : Int32) μ5 hU3 e_r19) hU3.1 hU3.2.2.1 rfl (by decide) rfl (Nat.le_of_ble_eq_true rfl) (Nat.le_of_ble_eq_true rfl) (Nat.le_of_ble_eq_true rfl) (Nat.le_of_ble_eq_true rfl) (Nat.le_refl _) rfl rfl dX3_rests_25 ?_
      refine z_aload_n C0 dX3_rests_28 rfl 0 rfl ?_
      refine z_iload_n C0 dX3_rests_29 rfl 1 rfl ?_
      refine z_iconst (v := (0 : Int32)) C0 dX3_rests_30 (by decide) ?_
      obtain ⟨r20, e_r20, h⟩ := zbd_of h
      refine z_callV (As := [.int v1, .int (0 : Int32)]) (rest := [.int r19]) C0 rfl kc_X3_gainOf km_RX3_54 (r_X3_gainOf (l := l) (g := g) a0 v1 (0 : Int32) μ5 hU3 e_r20) hU3.1 hU3.2.2.1 rfl (by decide) rfl (Nat.le_of_ble_eq_true rfl) (Nat.le_of_ble_eq_true rfl) (Nat.le_of_ble_eq_true rfl) (Nat.le_of_ble_eq_true rfl) (Nat.le_refl _) rfl rfl dX3_rests_31 ?_
      obtain ⟨b27, e_b27, h⟩ := zbd_of h
      refine z_joinb b27 μ5 59 57 [(0, .ref (zb g + a0)), (1, .int v1), (2, .int x1), (3, .int x2), (4, .int y4)] [] (fun z32 => ?_) (fun z32 => ?_) (fun k30 k31 => ?_)
      · have h := zif_t z32 h
        obtain ⟨x28, e_x28, h⟩ := zl_of h
        refine z_iinc (lo1 := [(4, .int x28), (0, .ref (zb g + a0)), (1, .int v1), (2, .int x1), (3, .int x2)]) C0 dX3_rests_59 4 rfl (by decide) e_x28.symm (by decide) rfl ?_
        refine z_goto C0 11 dX3_rests_62 (by decide) ?_
        refine z_sub (lo1 := [(0, .ref (zb g + a0)), (1, .int v1), (2, .int x1), (3, .int x2), (4, .int x28)]) [1, 2, 3, 4, 0] rfl ?_
        exact ih _ _ h kr kx
      · have h := zif_f (fun q => Bool.noConfusion (z32.symm.trans q)) h
        refine z_iconst (v := (0 : Int32)) C0 dX3_rests_57 (by decide) ?_
        have h := kr _ (Option.some.inj h).symm
        obtain rfl := h
        exact z_zret C0 rfl (by decide) dX3_rests_58
      · have h := e_b27
        refine z_icmp_gt C0 57 dX3_rests_34 (by decide) (fun c21 => ?_) (fun c21 => ?_)
        · have h := zif_t c21 h
          exact k31 (Option.some.inj h).symm
        · have h := zif_f c21 h
          refine z_aload_n C0 dX3_rests_37 rfl 0 rfl ?_
          refine z_iload_n C0 dX3_rests_38 rfl 2 rfl ?_
          refine z_iconst (v := (3 : Int32)) C0 dX3_rests_39 (by decide) ?_
          refine z_imul C0 dX3_rests_40 ?_
          refine z_iload C0 dX3_rests_41 4 rfl ?_
          refine z_iadd C0 dX3_rests_43 ?_
          refine z_iconst (v := (1 : Int32)) C0 dX3_rests_44 (by decide) ?_
          obtain ⟨r24, e_r24, h⟩ := zbd_of h
          refine z_callV (As := [.int ((x1 * (3 : Int32)) + y4), .int (1 : Int32)]) (rest := []) C0 rfl kc_X3_gainOf km_RX3_54 (r_X3_gainOf (l := l) (g := g) a0 ((x1 * (3 : Int32)) + y4) (1 : Int32) μ5 hU3 e_r24) hU3.1 hU3.2.2.1 rfl (by decide) rfl (Nat.le_of_ble_eq_true rfl) (Nat.le_of_ble_eq_true rfl) (Nat.le_of_ble_eq_true rfl) (Nat.le_of_ble_eq_true rfl) (Nat.le_refl _) rfl rfl dX3_rests_45 ?_
          refine z_aload_n C0 dX3_rests_48 rfl 0 rfl ?_
          refine z_iload_n C0 dX3_rests_49 rfl 1 rfl ?_
          refine z_iconst (v := (1 : Int32)) C0 dX3_rests_50 (by decide) ?_
          obtain ⟨r25, e_r25, h⟩ := zbd_of h
          refine z_callV (As := [.int v1, .int (1 : Int32)]) (rest := [.int r24]) C0 rfl kc_X3_gainOf km_RX3_54 (r_X3_gainOf (l := l) (g := g) a0 v1 (1 : Int32) μ5 hU3 e_r25) hU3.1 hU3.2.2.1 rfl (by decide) rfl (Nat.le_of_ble_eq_true rfl) (Nat.le_of_ble_eq_true rfl) (Nat.le_of_ble_eq_true rfl) (Nat.le_of_ble_eq_true rfl) (Nat.le_refl _) rfl rfl dX3_rests_51 ?_
          refine z_icmp_le C0 59 dX3_rests_54 (by decide) (fun c26 => ?_) (fun c26 => ?_)
          · have h := zif_t c26 h
            exact k30 (Option.some.inj h).symm
          · have h := zif_f c26 h
            exact k31 (Option.some.inj h).symm
set_option maxHeartbeats 4000000 in
set_option maxRecDepth 100000 in
theorem r_X3_rests {l : Launch} {g : zL} (a0 : Nat) (v1 : Int32) (μ : zM) (hT0 : zT zNN zσ1 a0 3) {rv : Int32} (h : f_X3_rests a0 v1 μ = some rv) : zMet l g yX3_rests cX3_rests 5 (some (.boolean)) 1 0 0 zNN zNN zσ1 zσ1 [.ref (zb g + a0), .int v1] μ (some (.int rv)) μ := by
  refine zMet.of (by decide +kernel) (Nat.le_of_ble_eq_true rfl) ?_
  intro p e s m args below meth c C0
  refine z_loc (lo1 := [(0, .ref (zb g + a0)), (1, .int v1)]) rfl ?_
  unfold f_X3_rests at h
  refine z_iload_n C0 dX3_rests_0 rfl 1 rfl ?_
  refine z_iconst (v := (3 : Int32)) C0 dX3_rests_1 (by decide) ?_
  refine z_idiv C0 dX3_rests_2 (by decide) ?_
  obtain ⟨x1, e_x1, h⟩ := zl_of h
  refine z_nm e_x1 ?_
  refine z_istore_n (lo1 := [(2, .int x1), (0, .ref (zb g + a0)), (1, .int v1)]) C0 dX3_rests_3 rfl (by decide) rfl ?_
  refine z_iload_n C0 dX3_rests_4 rfl 2 rfl ?_
  refine z_iconst (v := (3 : Int32)) C0 dX3_rests_5 (by decide) ?_
  refine z_irem C0 dX3_rests_6 (by decide) ?_
  obtain ⟨x2, e_x2, h⟩ := zl_of h
  refine z_nm e_x2 ?_
  refine z_istore_n (lo1 := [(3, .int x2), (2, .int x1), (0, .ref (zb g + a0)), (1, .int v1)]) C0 dX3_rests_7 rfl (by decide) rfl ?_
  refine z_iconst (v := (0 : Int32)) C0 dX3_rests_8 (by decide) ?_
  refine z_istore (lo1 := [(4, .int (0 : Int32)), (3, .int x2), (2, .int x1), (0, .ref (zb g + a0)), (1, .int v1)]) C0 dX3_rests_9 (by decide) rfl ?_
  refine z_sub (lo1 := [(0, .ref (zb g + a0)), (1, .int v1), (2, .int x1), (3, .int x2), (4, .int (0 : Int32))]) [3, 4, 2, 1, 0] rfl ?_
  obtain ⟨q29, e_q29, h⟩ := zbd_of h
  refine r_X3_rests_L11 C0 a0 v1 x1 x2 μ hT0 zFU (0 : Int32) q29 e_q29 ?_ ?_
  · intro t ht
    have h := zsum_l h _ ht
    exact Option.some.inj h
  · intro u_ hq
    have h := zsum_r h _ hq
    refine z_iconst (v := (1 : Int32)) C0 dX3_rests_65 (by decide) ?_
    have h := Option.some.inj h
    obtain rfl := h
    exact z_zret C0 rfl (by decide) dX3_rests_66
def f_X3_atRest_L4 (a0 : Nat) (μ4 : zM) : Nat → Int32 → Int32 → Option (Int32)
  | 0, _, _ => none
  | n + 1, y2, y3 =>
    if (9 : Int32) ≤ y3 then
      some y2
    else
      zbd (f_X3_rests a0 y3 μ4) fun r6 =>
      zl (if r6 = 0 then
          (0 : Int32)
        else
          (1 : Int32)) fun x9 =>
      zl (y2 + x9) fun x10 =>
      zl (y3 + (1 : Int32)) fun x11 =>
      f_X3_atRest_L4 a0 μ4 n x10 x11
def f_X3_atRest (a0 : Nat) (μ : zM) : Option (Int32) :=
  zbd (f_X3_atRest_L4 a0 μ zFU (0 : Int32) (0 : Int32)) fun x12 =>
  some x12
set_option maxHeartbeats 4000000 in
set_option maxRecDepth 100000 in
theorem r_X3_atRest_L4 {l : Launch} {g : zL} {p : Program} {e : Env} {s : State} {m : MethodId} {args : Array Value} {below : List Frame} {meth : Method} {c : Code} {Q : State → Prop} (C0 : zC p s m args meth c g cX3_atRest yX3_atRest 3 (some (.int))) (a0 : Nat) (μ4 : zM) (hU1 : zT zNN zσ1 a0 3) : ∀ (n : Nat) (y2 : Int32) (y3 : Int32) (x12 : Int32), f_X3_atRest_L4 a0 μ4 n y2 y3 = some x12 → Z p l e (zrm 2 0 0) s m args below meth c g Q 3 zNN 0 0 zσ1 μ4 32 [(1, .int x12)] [] → Z p l e (zrm 2 0 0) s m args below meth c g Q 3 zNN 0 0 zσ1 μ4 4 [(0, .ref (zb g + a0)), (1, .int y2), (2, .int y3)] [] := by
  intro n
  induction n with
  | zero =>
    intro y2 y3 x12 h kx
    rw [f_X3_atRest_L4] at h
    cases h
  | succ n ih =>
    intro y2 y3 x12 h kx
    rw [f_X3_atRest_L4] at h
    refine z_iload_n C0 dX3_atRest_4 rfl 2 rfl ?_
    refine z_bipush (v := (9 : Int32)) C0 dX3_atRest_5 (by decide) ?_
    refine z_icmp_ge C0 32 dX3_atRest_7 (by decide) (fun c5 => ?_) (fun c5 => ?_)
    · have h := zif_t c5 h
      refine z_sub (lo1 := [(1, .int y2)]) [1] rfl ?_
      obtain rfl := (Option.some.inj h)
      exact kx
    · have h := zif_f c5 h
      refine z_iload_n C0 dX3_atRest_10 rfl 1 rfl ?_
      refine z_aload_n C0 dX3_atRest_11 rfl 0 rfl ?_
      refine z_iload_n C0 dX3_atRest_12 rfl 2 rfl ?_
      obtain ⟨r6, e_r6, h⟩ := zbd_of h
      refine z_callV (As := [.int y3]) (rest := [.int y2]) C0 rfl kc_X3_rests km_RX3_57 (r_X3_rests (l := l) (g := g) a0 y3 μ4 hU1 e_r6) hU1.1 hU1.2.2.1 rfl (by decide) rfl (Nat.le_of_ble_eq_true rfl) (Nat.le_of_ble_eq_true rfl) (Nat.le_of_ble_eq_true rfl) (Nat.le_of_ble_eq_true rfl) (Nat.le_refl _) rfl rfl dX3_atRest_13 ?_
      obtain ⟨x9, e_x9, h⟩ := zl_of h
      refine z_join μ4 24 [(0, .ref (zb g + a0)), (2, .int y3)] [.int x9, .int y2] ?_ (fun k_J8 => ?_)
      · refine z_iadd C0 dX3_atRest_24 ?_
        obtain ⟨x10, e_x10, h⟩ := zl_of h
        refine z_nm e_x10 ?_
        refine z_istore_n (lo1 := [(1, .int x10), (0, .ref (zb g + a0)), (2, .int y3)]) C0 dX3_atRest_25 rfl (by decide) rfl ?_
        obtain ⟨x11, e_x11, h⟩ := zl_of h
        refine z_iinc (lo1 := [(2, .int x11), (1, .int x10), (0, .ref (zb g + a0))]) C0 dX3_atRest_26 2 rfl (by decide) e_x11.symm (by decide) rfl ?_
        refine z_goto C0 4 dX3_atRest_29 (by decide) ?_
        refine z_sub (lo1 := [(0, .ref (zb g + a0)), (1, .int x10), (2, .int x11)]) [2, 1, 0] rfl ?_
        exact ih _ _ _ h kx
      · have h := e_x9.symm
        refine z_if_eq C0 23 dX3_atRest_16 (by decide) (fun c7 => ?_) (fun c7 => ?_)
        · have h := zif_t c7 h
          refine z_iconst (v := (0 : Int32)) C0 dX3_atRest_23 (by decide) ?_
          refine z_sub (lo1 := [(0, .ref (zb g + a0)), (2, .int y3)]) [0, 2] rfl ?_
          obtain rfl := h
          exact k_J8
        · have h := zif_f c7 h
          refine z_iconst (v := (1 : Int32)) C0 dX3_atRest_19 (by decide) ?_
          refine z_goto C0 24 dX3_atRest_20 (by decide) ?_
          refine z_sub (lo1 := [(0, .ref (zb g + a0)), (2, .int y3)]) [0, 2] rfl ?_
          obtain rfl := h
          exact k_J8
set_option maxHeartbeats 4000000 in
set_option maxRecDepth 100000 in
theorem r_X3_atRest {l : Launch} {g : zL} (a0 : Nat) (μ : zM) (hT0 : zT zNN zσ1 a0 3) {rv : Int32} (h : f_X3_atRest a0 μ = some rv) : zMet l g yX3_atRest cX3_atRest 3 (some (.int)) 2 0 0 zNN zNN zσ1 zσ1 [.ref (zb g + a0)] μ (some (.int rv)) μ := by
  refine zMet.of (by decide +kernel) (Nat.le_of_ble_eq_true rfl) ?_
  intro p e s m args below meth c C0
  refine z_loc (lo1 := [(0, .ref (zb g + a0))]) rfl ?_
  unfold f_X3_atRest at h
  refine z_iconst (v := (0 : Int32)) C0 dX3_atRest_0 (by decide) ?_
  refine z_istore_n (lo1 := [(1, .int (0 : Int32)), (0, .ref (zb g + a0))]) C0 dX3_atRest_1 rfl (by decide) rfl ?_
  refine z_iconst (v := (0 : Int32)) C0 dX3_atRest_2 (by decide) ?_
  refine z_istore_n (lo1 := [(2, .int (0 : Int32)), (1, .int (0 : Int32)), (0, .ref (zb g + a0))]) C0 dX3_atRest_3 rfl (by decide) rfl ?_
  refine z_sub (lo1 := [(0, .ref (zb g + a0)), (1, .int (0 : Int32)), (2, .int (0 : Int32))]) [2, 1, 0] rfl ?_
  obtain ⟨x12, e_x12, h⟩ := zbd_of h
  refine r_X3_atRest_L4 C0 a0 μ hT0 zFU (0 : Int32) (0 : Int32) x12 e_x12 ?_
  refine z_iload_n C0 dX3_atRest_32 rfl 0 rfl ?_
  have h := Option.some.inj h
  obtain rfl := h
  exact z_iret C0 rfl dX3_atRest_33
def f_X3_restAt_L4 (a0 : Nat) (v1 : Int32) (μ4 : zM) : Nat → Int32 → Int32 → Option ((Int32) ⊕ (Unit))
  | 0, _, _ => none
  | n + 1, y2, y3 =>
    if (9 : Int32) ≤ y3 then
      some (.inr ())
    else
      zbd (f_X3_rests a0 y3 μ4) fun r11 =>
      zbd (if r11 = 0 then
          some (.inr y2)
        else
          if ¬ y2 = v1 then
            zl (y2 + (1 : Int32)) fun x16 =>
            some (.inr x16)
          else
            some (.inl y3)) fun q19 => zsum q19 (fun t => some (.inl t)) fun x17 =>
      zl (y3 + (1 : Int32)) fun x18 =>
      f_X3_restAt_L4 a0 v1 μ4 n x17 x18
def f_X3_restAt (a0 : Nat) (v1 : Int32) (μ : zM) : Option (Int32) :=
  zbd (f_X3_restAt_L4 a0 v1 μ zFU (0 : Int32) (0 : Int32)) fun q20 => zsum q20 (fun t => some t) fun _ =>
  some (-2 : Int32)
set_option maxHeartbeats 4000000 in
set_option maxRecDepth 100000 in
theorem r_X3_restAt_L4 {l : Launch} {g : zL} {p : Program} {e : Env} {s : State} {m : MethodId} {args : Array Value} {below : List Frame} {meth : Method} {c : Code} {rv : Int32} (C0 : zC p s m args meth c g cX3_restAt yX3_restAt 4 (some (.int))) (a0 : Nat) (v1 : Int32) (μ4 : zM) (hU1 : zT zNN zσ1 a0 3) : ∀ (n : Nat) (y2 : Int32) (y3 : Int32) (q : (Int32) ⊕ (Unit)), f_X3_restAt_L4 a0 v1 μ4 n y2 y3 = some q → (∀ t, q = Sum.inl t → t = rv) → (∀ o, q = Sum.inr o → Z p l e (zrm 2 0 0) s m args below meth c g (MQ below (zQ g zNN zσ1 (some (.int rv)) μ4) args s 0 0 (zA g)) 4 zNN 0 0 zσ1 ((fun _ => μ4) o) 34 ((fun o => []) o) []) → Z p l e (zrm 2 0 0) s m args below meth c g (MQ below (zQ g zNN zσ1 (some (.int rv)) μ4) args s 0 0 (zA g)) 4 zNN 0 0 zσ1 μ4 4 [(0, .ref (zb g + a0)), (1, .int v1), (2, .int y2), (3, .int y3)] [] := by
  intro n
  induction n with
  | zero =>
    intro y2 y3 q h kr kx
    rw [f_X3_restAt_L4] at h
    cases h
  | succ n ih =>
    intro y2 y3 q h kr kx
    rw [f_X3_restAt_L4] at h
    refine z_iload_n C0 dX3_restAt_4 rfl 3 rfl ?_
    refine z_bipush (v := (9 : Int32)) C0 dX3_restAt_5 (by decide) ?_
    refine z_icmp_ge C0 34 dX3_restAt_7 (by decide) (fun c5 => ?_) (fun c5 => ?_)
    · have h := zif_t c5 h
      refine z_sub (lo1 := []) [] rfl ?_
      exact kx () (Option.some.inj h).symm
    · have h := zif_f c5 h
      refine z_aload_n C0 dX3_restAt_10 rfl 0 rfl ?_
      refine z_iload_n C0 dX3_restAt_11 rfl 3 rfl ?_
      obtain ⟨r11, e_r11, h⟩ := zbd_of h
      refine z_callV (As := [.int y3]) (rest := []) C0 rfl kc_X3_rests km_RX3_57 (r_X3_rests (l := l) (g := g) a0 y3 μ4 hU1 e_r11) hU1.1 hU1.2.2.1 rfl (by decide) rfl (Nat.le_of_ble_eq_true rfl) (Nat.le_of_ble_eq_true rfl) (Nat.le_of_ble_eq_true rfl) (Nat.le_of_ble_eq_true rfl) (Nat.le_refl _) rfl rfl dX3_restAt_12 ?_
      obtain ⟨q19, e_q19, h⟩ := zbd_of h
      have kr_J14 := zsum_l h
      have kx_J14 := zsum_r h
      clear h
      refine z_joinq (fun o => q19 = Sum.inr o) (fun o => μ4) 28 (fun o => [(0, .ref (zb g + a0)), (1, .int v1), (2, .int o), (3, .int y3)]) (fun o => []) ?_ (fun k_J14 => ?_)
      · intro x17 hq
        have h := kx_J14 _ hq
        obtain ⟨x18, e_x18, h⟩ := zl_of h
        refine z_iinc (lo1 := [(3, .int x18), (0, .ref (zb g + a0)), (1, .int v1), (2, .int x17)]) C0 dX3_restAt_28 3 rfl (by decide) e_x18.symm (by decide) rfl ?_
        refine z_goto C0 4 dX3_restAt_31 (by decide) ?_
        refine z_sub (lo1 := [(0, .ref (zb g + a0)), (1, .int v1), (2, .int x17), (3, .int x18)]) [1, 2, 3, 0] rfl ?_
        exact ih _ _ _ h kr kx
      · have h := e_q19
        refine z_if_eq C0 28 dX3_restAt_15 (by decide) (fun c12 => ?_) (fun c12 => ?_)
        · have h := zif_t c12 h
          exact k_J14 y2 (Option.some.inj h).symm
        · have h := zif_f c12 h
          refine z_iload_n C0 dX3_restAt_18 rfl 2 rfl ?_
          refine z_iload_n C0 dX3_restAt_19 rfl 1 rfl ?_
          refine z_icmp_ne C0 25 dX3_restAt_20 (by decide) (fun c15 => ?_) (fun c15 => ?_)
          · have h := zif_t c15 h
            obtain ⟨x16, e_x16, h⟩ := zl_of h
            refine z_iinc (lo1 := [(2, .int x16), (0, .ref (zb g + a0)), (1, .int v1), (3, .int y3)]) C0 dX3_restAt_25 2 rfl (by decide) e_x16.symm (by decide) rfl ?_
            refine z_sub (lo1 := [(0, .ref (zb g + a0)), (1, .int v1), (2, .int x16), (3, .int y3)]) [1, 2, 0, 3] rfl ?_
            exact k_J14 x16 (Option.some.inj h).symm
          · have h := zif_f (fun q => q c15) h
            refine z_iload_n C0 dX3_restAt_23 rfl 3 rfl ?_
            have h := kr_J14 _ (Option.some.inj h).symm
            have h := kr _ (Option.some.inj h).symm
            obtain rfl := h
            exact z_iret C0 rfl dX3_restAt_24
set_option maxHeartbeats 4000000 in
set_option maxRecDepth 100000 in
theorem r_X3_restAt {l : Launch} {g : zL} (a0 : Nat) (v1 : Int32) (μ : zM) (hT0 : zT zNN zσ1 a0 3) {rv : Int32} (h : f_X3_restAt a0 v1 μ = some rv) : zMet l g yX3_restAt cX3_restAt 4 (some (.int)) 2 0 0 zNN zNN zσ1 zσ1 [.ref (zb g + a0), .int v1] μ (some (.int rv)) μ := by
  refine zMet.of (by decide +kernel) (Nat.le_of_ble_eq_true rfl) ?_
  intro p e s m args below meth c C0
  refine z_loc (lo1 := [(0, .ref (zb g + a0)), (1, .int v1)]) rfl ?_
  unfold f_X3_restAt at h
  refine z_iconst (v := (0 : Int32)) C0 dX3_restAt_0 (by decide) ?_
  refine z_istore_n (lo1 := [(2, .int (0 : Int32)), (0, .ref (zb g + a0)), (1, .int v1)]) C0 dX3_restAt_1 rfl (by decide) rfl ?_
  refine z_iconst (v := (0 : Int32)) C0 dX3_restAt_2 (by decide) ?_
  refine z_istore_n (lo1 := [(3, .int (0 : Int32)), (2, .int (0 : Int32)), (0, .ref (zb g + a0)), (1, .int v1)]) C0 dX3_restAt_3 rfl (by decide) rfl ?_
  refine z_sub (lo1 := [(0, .ref (zb g + a0)), (1, .int v1), (2, .int (0 : Int32)), (3, .int (0 : Int32))]) [2, 3, 1, 0] rfl ?_
  obtain ⟨q20, e_q20, h⟩ := zbd_of h
  refine r_X3_restAt_L4 C0 a0 v1 μ hT0 zFU (0 : Int32) (0 : Int32) q20 e_q20 ?_ ?_
  · intro t ht
    have h := zsum_l h _ ht
    exact Option.some.inj h
  · intro u_ hq
    have h := zsum_r h _ hq
    refine z_bipush (v := (-2 : Int32)) C0 dX3_restAt_34 (by decide) ?_
    have h := Option.some.inj h
    obtain rfl := h
    exact z_iret C0 rfl dX3_restAt_36
