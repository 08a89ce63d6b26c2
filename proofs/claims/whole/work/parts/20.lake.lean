def f_X1_lines (a0 : Nat) (v1 : Int32) (μ : zM) : Int32 :=
  zl (if ¬ v1 = 0 then
      (μ a0 7)
    else
      (μ a0 6)) fun x3 =>
  x3
set_option maxHeartbeats 4000000 in
set_option maxRecDepth 100000 in
theorem r_X1_lines {l : Launch} {g : zL} (a0 : Nat) (v1 : Int32) (μ : zM) (hT0 : zT zNN zσ1 a0 1) {rv : Int32} (h : f_X1_lines a0 v1 μ = rv) : zMet l g yX1_lines cX1_lines 2 (some (.int)) 0 0 0 zNN zNN zσ1 zσ1 [.ref (zb g + a0), .int v1] μ (some (.int rv)) μ := by
  refine zMet.of (by decide +kernel) (Nat.le_of_ble_eq_true rfl) ?_
  intro p e s m args below meth c C0
  refine z_loc (lo1 := [(0, .ref (zb g + a0)), (1, .int v1)]) rfl ?_
  unfold f_X1_lines at h
  refine z_iload_n C0 dX1_lines_0 rfl 1 rfl ?_
  obtain ⟨x3, e_x3, h⟩ := zl_of h
  refine z_join μ 15 [] [.int x3] ?_ (fun k_J2 => ?_)
  · skip
    obtain rfl := h
    exact z_iret C0 rfl dX1_lines_15
  · have h := e_x3.symm
    refine z_if_ne C0 11 dX1_lines_1 (by decide) (fun c1 => ?_) (fun c1 => ?_)
    · have h := zif_t c1 h
      refine z_aload_n C0 dX1_lines_11 rfl 0 rfl ?_
      refine z_geti C0 hT0.1 hT0.2.2.1 kf_1_77 zr_1_7 dX1_lines_12 ?_
      refine z_sub (lo1 := []) [] rfl ?_
      obtain rfl := h
      exact k_J2
    · have h := zif_f (fun q => q c1) h
      refine z_aload_n C0 dX1_lines_4 rfl 0 rfl ?_
      refine z_geti C0 hT0.1 hT0.2.2.1 kf_1_74 zr_1_6 dX1_lines_5 ?_
      refine z_goto C0 15 dX1_lines_8 (by decide) ?_
      refine z_sub (lo1 := []) [] rfl ?_
      obtain rfl := h
      exact k_J2
def f_X1_surrounds (a0 : Nat) (a1 : Nat) (v2 : Int32) (v3 : Int32) (μ : zM) : Int32 :=
  zl (if (¬ (v2 < 0)) ∧ ((¬ (v3 < 0)) ∧ ((¬ ((μ (a0 + 1) 0) < (v2 + (μ a1 6)))) ∧ (¬ ((μ (a0 + 1) 1) < (v3 + (μ a1 7)))))) then
      (1 : Int32)
    else
      (0 : Int32)) fun x6 =>
  x6
set_option maxHeartbeats 4000000 in
set_option maxRecDepth 100000 in
theorem r_X1_surrounds {l : Launch} {g : zL} (a0 : Nat) (a1 : Nat) (v2 : Int32) (v3 : Int32) (μ : zM) (hT0 : zT zNN zσ1 a0 1) (hT1 : zT zNN zσ1 a1 1) {rv : Int32} (h : f_X1_surrounds a0 a1 v2 v3 μ = rv) : zMet l g yX1_surrounds cX1_surrounds 4 (some (.boolean)) 0 0 0 zNN zNN zσ1 zσ1 [.ref (zb g + a0), .ref (zb g + a1), .int v2, .int v3] μ (some (.int rv)) μ := by
  refine zMet.of (by decide +kernel) (Nat.le_of_ble_eq_true rfl) ?_
  intro p e s m args below meth c C0
  refine z_loc (lo1 := [(0, .ref (zb g + a0)), (1, .ref (zb g + a1)), (2, .int v2), (3, .int v3)]) rfl ?_
  unfold f_X1_surrounds at h
  refine z_iload_n C0 dX1_surrounds_0 rfl 2 rfl ?_
  obtain ⟨x6, e_x6, h⟩ := zl_of h
  refine z_join μ 43 [] [.int x6] ?_ (fun k_J5 => ?_)
  · skip
    obtain rfl := h
    exact z_zret C0 rfl (by rw [e_x6]; repeat' split <;> rfl) dX1_surrounds_43
  · have h := e_x6.symm
    by_cases hc7 : (¬ (v2 < 0)) ∧ ((¬ (v3 < 0)) ∧ ((¬ ((μ (a0 + 1) 0) < (v2 + (μ a1 6)))) ∧ (¬ ((μ (a0 + 1) 1) < (v3 + (μ a1 7))))))
    · have h := zif_t hc7 h
      refine z_join μ 38 [(0, .ref (zb g + a0)), (1, .ref (zb g + a1)), (2, .int v2), (3, .int v3)] [] ?_ (fun k8 => ?_)
      · refine z_iconst (v := (1 : Int32)) C0 dX1_surrounds_38 (by decide) ?_
        refine z_goto C0 43 dX1_surrounds_39 (by decide) ?_
        refine z_sub (lo1 := []) [] rfl ?_
        obtain rfl := h
        exact k_J5
      · refine z_if_lt C0 42 dX1_surrounds_1 (by decide) (fun c1 => ?_) (fun c1 => ?_)
        · exact absurd hc7 (fun q => q.1 c1)
        · refine z_iload_n C0 dX1_surrounds_4 rfl 3 rfl ?_
          refine z_if_lt C0 42 dX1_surrounds_5 (by decide) (fun c2 => ?_) (fun c2 => ?_)
          · exact absurd hc7 (fun q => (fun q => q.1 c2) q.2)
          · refine z_iload_n C0 dX1_surrounds_8 rfl 2 rfl ?_
            refine z_aload_n C0 dX1_surrounds_9 rfl 1 rfl ?_
            refine z_geti C0 hT1.1 hT1.2.2.1 kf_1_74 zr_1_6 dX1_surrounds_10 ?_
            refine z_iadd C0 dX1_surrounds_13 ?_
            refine z_aload_n C0 dX1_surrounds_14 rfl 0 rfl ?_
            refine z_getr C0 hT0 kf_1_11 zr_1_0 zx_1 (zs_1_0 hT0).1 dX1_surrounds_15 ?_
            refine z_iconst (v := (0 : Int32)) C0 dX1_surrounds_18 (by decide) ?_
            refine z_iald (j := 0) C0 (zs_1_0 hT0).2 (by decide : zin (0 : Int32) 11 = true) (by decide) dX1_surrounds_19 ?_
            refine z_icmp_gt C0 42 dX1_surrounds_20 (by decide) (fun c3 => ?_) (fun c3 => ?_)
            · exact absurd hc7 (fun q => (fun q => (fun q => q.1 c3) q.2) q.2)
            · refine z_iload_n C0 dX1_surrounds_23 rfl 3 rfl ?_
              refine z_aload_n C0 dX1_surrounds_24 rfl 1 rfl ?_
              refine z_geti C0 hT1.1 hT1.2.2.1 kf_1_77 zr_1_7 dX1_surrounds_25 ?_
              refine z_iadd C0 dX1_surrounds_28 ?_
              refine z_aload_n C0 dX1_surrounds_29 rfl 0 rfl ?_
              refine z_getr C0 hT0 kf_1_11 zr_1_0 zx_1 (zs_1_0 hT0).1 dX1_surrounds_30 ?_
              refine z_iconst (v := (1 : Int32)) C0 dX1_surrounds_33 (by decide) ?_
              refine z_iald (j := 1) C0 (zs_1_0 hT0).2 (by decide : zin (1 : Int32) 11 = true) (by decide) dX1_surrounds_34 ?_
              refine z_icmp_gt C0 42 dX1_surrounds_35 (by decide) (fun c4 => ?_) (fun c4 => ?_)
              · exact absurd hc7 (fun q => (fun q => (fun q => (fun q => q c4) q.2) q.2) q.2)
              · exact k8
    · have h := zif_f hc7 h
      refine z_join μ 42 [(0, .ref (zb g + a0)), (1, .ref (zb g + a1)), (2, .int v2), (3, .int v3)] [] ?_ (fun k9 => ?_)
      · refine z_iconst (v := (0 : Int32)) C0 dX1_surrounds_42 (by decide) ?_
        refine z_sub (lo1 := []) [] rfl ?_
        obtain rfl := h
        exact k_J5
      · refine z_if_lt C0 42 dX1_surrounds_1 (by decide) (fun c1 => ?_) (fun c1 => ?_)
        · exact k9
        · refine z_iload_n C0 dX1_surrounds_4 rfl 3 rfl ?_
          refine z_if_lt C0 42 dX1_surrounds_5 (by decide) (fun c2 => ?_) (fun c2 => ?_)
          · exact k9
          · refine z_iload_n C0 dX1_surrounds_8 rfl 2 rfl ?_
            refine z_aload_n C0 dX1_surrounds_9 rfl 1 rfl ?_
            refine z_geti C0 hT1.1 hT1.2.2.1 kf_1_74 zr_1_6 dX1_surrounds_10 ?_
            refine z_iadd C0 dX1_surrounds_13 ?_
            refine z_aload_n C0 dX1_surrounds_14 rfl 0 rfl ?_
            refine z_getr C0 hT0 kf_1_11 zr_1_0 zx_1 (zs_1_0 hT0).1 dX1_surrounds_15 ?_
            refine z_iconst (v := (0 : Int32)) C0 dX1_surrounds_18 (by decide) ?_
            refine z_iald (j := 0) C0 (zs_1_0 hT0).2 (by decide : zin (0 : Int32) 11 = true) (by decide) dX1_surrounds_19 ?_
            refine z_icmp_gt C0 42 dX1_surrounds_20 (by decide) (fun c3 => ?_) (fun c3 => ?_)
            · exact k9
            · refine z_iload_n C0 dX1_surrounds_23 rfl 3 rfl ?_
              refine z_aload_n C0 dX1_surrounds_24 rfl 1 rfl ?_
              refine z_geti C0 hT1.1 hT1.2.2.1 kf_1_77 zr_1_7 dX1_surrounds_25 ?_
              refine z_iadd C0 dX1_surrounds_28 ?_
              refine z_aload_n C0 dX1_surrounds_29 rfl 0 rfl ?_
              refine z_getr C0 hT0 kf_1_11 zr_1_0 zx_1 (zs_1_0 hT0).1 dX1_surrounds_30 ?_
              refine z_iconst (v := (1 : Int32)) C0 dX1_surrounds_33 (by decide) ?_
              refine z_iald (j := 1) C0 (zs_1_0 hT0).2 (by decide : zin (1 : Int32) 11 = true) (by decide) dX1_surrounds_34 ?_
              refine z_icmp_gt C0 42 dX1_surrounds_35 (by decide) (fun c4 => ?_) (fun c4 => ?_)
              · exact k9
              · exact absurd ⟨c1, ⟨c2, ⟨c3, c4⟩⟩⟩ hc7
def f_X1_hasRockUnder_L15 (a0 : Nat) (a1 : Nat) (v3 : Int32) (x1 : Int32) (μ5 : zM) : Nat → Int32 → Option ((Int32) ⊕ (Unit))
  | 0, _ => none
  | n + 1, y4 =>
    if (v3 + (μ5 a1 7)) ≤ y4 then
      some (.inr ())
    else
      zbd (if y4 < 0 then
          some false
        else
          if (12 : Int32) ≤ y4 then
            some false
          else
            zg (zin y4 12) <|
            if ((μ5 (a0 + 14) (y4.toNatClampNeg)) &&& x1) = 0 then
              some false
            else
              some true) fun b17 =>
      if b17 = true then
        some (.inl (1 : Int32))
      else
        zl (y4 + (1 : Int32)) fun x18 =>
        f_X1_hasRockUnder_L15 a0 a1 v3 x1 μ5 n x18
def f_X1_hasRockUnder (a0 : Nat) (a1 : Nat) (v2 : Int32) (v3 : Int32) (μ : zM) : Option (Int32) :=
  zl ((((1 : Int32) <<< ((μ a1 6) &&& 31)) - (1 : Int32)) <<< (v2 &&& 31)) fun x1 =>
  zbd (f_X1_hasRockUnder_L15 a0 a1 v3 x1 μ zFU v3) fun q19 => zsum q19 (fun t => some t) fun _ =>
  some (0 : Int32)
set_option maxHeartbeats 4000000 in
set_option maxRecDepth 100000 in
theorem r_X1_hasRockUnder_L15 {l : Launch} {g : zL} {p : Program} {e : Env} {s : State} {m : MethodId} {args : Array Value} {below : List Frame} {meth : Method} {c : Code} {rv : Int32} (C0 : zC p s m args meth c g cX1_hasRockUnder yX1_hasRockUnder 6 (some (.boolean))) (a0 : Nat) (a1 : Nat) (v3 : Int32) (x1 : Int32) (μ5 : zM) (hU2 : zT zNN zσ1 a0 1) (hU3 : zT zNN zσ1 a1 1) : ∀ (n : Nat) (y4 : Int32) (q : (Int32) ⊕ (Unit)), f_X1_hasRockUnder_L15 a0 a1 v3 x1 μ5 n y4 = some q → (∀ t, q = Sum.inl t → t = rv) → (∀ o, q = Sum.inr o → Z p l e (zrm 0 0 0) s m args below meth c g (MQ below (zQ g zNN zσ1 (some (.int rv)) μ5) args s 0 0 (zA g)) 6 zNN 0 0 zσ1 ((fun _ => μ5) o) 59 ((fun o => []) o) []) → Z p l e (zrm 0 0 0) s m args below meth c g (MQ below (zQ g zNN zσ1 (some (.int rv)) μ5) args s 0 0 (zA g)) 6 zNN 0 0 zσ1 μ5 15 [(0, .ref (zb g + a0)), (1, .ref (zb g + a1)), (3, .int v3), (4, .int x1), (5, .int y4)] [] := by
  intro n
  induction n with
  | zero =>
    intro y4 q h kr kx
    rw [f_X1_hasRockUnder_L15] at h
    cases h
  | succ n ih =>
    intro y4 q h kr kx
    rw [f_X1_hasRockUnder_L15] at h
    refine z_iload C0 dX1_hasRockUnder_15 4 rfl ?_
    refine z_iload_n C0 dX1_hasRockUnder_17 rfl 2 rfl ?_
    refine z_aload_n C0 dX1_hasRockUnder_18 rfl 1 rfl ?_
    refine z_geti C0 hU3.1 hU3.2.2.1 kf_1_77 zr_1_7 dX1_hasRockUnder_19 ?_
    refine z_iadd C0 dX1_hasRockUnder_22 ?_
    refine z_icmp_ge C0 59 dX1_hasRockUnder_23 (by decide) (fun c6 => ?_) (fun c6 => ?_)
    · have h := zif_t c6 h
      refine z_sub (lo1 := []) [] rfl ?_
      exact kx () (Option.some.inj h).symm
    · have h := zif_f c6 h
      refine z_iload C0 dX1_hasRockUnder_26 4 rfl ?_
      obtain ⟨b17, e_b17, h⟩ := zbd_of h
      refine z_joinb b17 μ5 51 53 [(0, .ref (zb g + a0)), (1, .ref (zb g + a1)), (3, .int v3), (4, .int x1), (5, .int y4)] [] (fun z22 => ?_) (fun z22 => ?_) (fun k20 k21 => ?_)
      · have h := zif_t z22 h
        refine z_iconst (v := (1 : Int32)) C0 dX1_hasRockUnder_51 (by decide) ?_
        have h := kr _ (Option.some.inj h).symm
        obtain rfl := h
        exact z_zret C0 rfl (by decide) dX1_hasRockUnder_52
      · have h := zif_f (fun q => Bool.noConfusion (z22.symm.trans q)) h
        obtain ⟨x18, e_x18, h⟩ := zl_of h
        refine z_iinc (lo1 := [(5, .int x18), (0, .ref (zb g + a0)), (1, .ref (zb g + a1)), (3, .int v3), (4, .int x1)]) C0 dX1_hasRockUnder_53 4 rfl (by decide) e_x18.symm (by decide) rfl ?_
        refine z_goto C0 15 dX1_hasRockUnder_56 (by decide) ?_
        refine z_sub (lo1 := [(0, .ref (zb g + a0)), (1, .ref (zb g + a1)), (3, .int v3), (4, .int x1), (5, .int x18)]) [1, 2, 3, 4, 0] rfl ?_
        exact ih _ _ h kr kx
      · have h := e_b17
        refine z_if_lt C0 53 dX1_hasRockUnder_28 (by decide) (fun c12 => ?_) (fun c12 => ?_)
        · have h := zif_t c12 h
          exact k21 (Option.some.inj h).symm
        · have h := zif_f c12 h
          refine z_iload C0 dX1_hasRockUnder_31 4 rfl ?_
          refine z_bipush (v := (12 : Int32)) C0 dX1_hasRockUnder_33 (by decide) ?_
          refine z_icmp_ge C0 53 dX1_hasRockUnder_35 (by decide) (fun c13 => ?_) (fun c13 => ?_)
          · have h := zif_t c13 h
            exact k21 (Option.some.inj h).symm
          · have h := zif_f c13 h
            refine z_aload_n C0 dX1_hasRockUnder_38 rfl 0 rfl ?_
            refine z_getr C0 hU2 kf_1_42 zr_1_11 zx_1 (zs_1_11 hU2).1 dX1_hasRockUnder_39 ?_
            refine z_iload C0 dX1_hasRockUnder_42 4 rfl ?_
            obtain ⟨g15, h⟩ := zg_of h
            refine z_iald C0 (zs_1_11 hU2).2 g15 rfl dX1_hasRockUnder_44 ?_
            refine z_iload C0 dX1_hasRockUnder_45 3 rfl ?_
            refine z_iand C0 dX1_hasRockUnder_47 ?_
            refine z_if_eq C0 53 dX1_hasRockUnder_48 (by decide) (fun c16 => ?_) (fun c16 => ?_)
            · have h := zif_t c16 h
              exact k21 (Option.some.inj h).symm
            · have h := zif_f c16 h
              exact k20 (Option.some.inj h).symm
set_option maxHeartbeats 4000000 in
set_option maxRecDepth 100000 in
theorem r_X1_hasRockUnder {l : Launch} {g : zL} (a0 : Nat) (a1 : Nat) (v2 : Int32) (v3 : Int32) (μ : zM) (hT0 : zT zNN zσ1 a0 1) (hT1 : zT zNN zσ1 a1 1) {rv : Int32} (h : f_X1_hasRockUnder a0 a1 v2 v3 μ = some rv) : zMet l g yX1_hasRockUnder cX1_hasRockUnder 6 (some (.boolean)) 0 0 0 zNN zNN zσ1 zσ1 [.ref (zb g + a0), .ref (zb g + a1), .int v2, .int v3] μ (some (.int rv)) μ := by
  refine zMet.of (by decide +kernel) (Nat.le_of_ble_eq_true rfl) ?_
  intro p e s m args below meth c C0
  refine z_loc (lo1 := [(0, .ref (zb g + a0)), (1, .ref (zb g + a1)), (2, .int v2), (3, .int v3)]) rfl ?_
  unfold f_X1_hasRockUnder at h
  refine z_iconst (v := (1 : Int32)) C0 dX1_hasRockUnder_0 (by decide) ?_
  refine z_aload_n C0 dX1_hasRockUnder_1 rfl 1 rfl ?_
  refine z_geti C0 hT1.1 hT1.2.2.1 kf_1_74 zr_1_6 dX1_hasRockUnder_2 ?_
  refine z_ishl C0 dX1_hasRockUnder_5 ?_
  refine z_iconst (v := (1 : Int32)) C0 dX1_hasRockUnder_6 (by decide) ?_
  refine z_isub C0 dX1_hasRockUnder_7 ?_
  refine z_iload_n C0 dX1_hasRockUnder_8 rfl 2 rfl ?_
  refine z_ishl C0 dX1_hasRockUnder_9 ?_
  obtain ⟨x1, e_x1, h⟩ := zl_of h
  refine z_nm e_x1 ?_
  refine z_istore (lo1 := [(4, .int x1), (0, .ref (zb g + a0)), (1, .ref (zb g + a1)), (2, .int v2), (3, .int v3)]) C0 dX1_hasRockUnder_10 (by decide) rfl ?_
  refine z_iload_n C0 dX1_hasRockUnder_12 rfl 4 rfl ?_
  refine z_istore (lo1 := [(5, .int v3), (4, .int x1), (0, .ref (zb g + a0)), (1, .ref (zb g + a1)), (2, .int v2), (3, .int v3)]) C0 dX1_hasRockUnder_13 (by decide) rfl ?_
  refine z_sub (lo1 := [(0, .ref (zb g + a0)), (1, .ref (zb g + a1)), (3, .int v3), (4, .int x1), (5, .int v3)]) [2, 3, 5, 1, 0] rfl ?_
  obtain ⟨q19, e_q19, h⟩ := zbd_of h
  refine r_X1_hasRockUnder_L15 C0 a0 a1 v3 x1 μ hT0 hT1 zFU v3 q19 e_q19 ?_ ?_
  · intro t ht
    have h := zsum_l h _ ht
    exact Option.some.inj h
  · intro u_ hq
    have h := zsum_r h _ hq
    refine z_iconst (v := (0 : Int32)) C0 dX1_hasRockUnder_59 (by decide) ?_
    have h := Option.some.inj h
    obtain rfl := h
    exact z_zret C0 rfl (by decide) dX1_hasRockUnder_60
def f_X1_floats (a0 : Nat) (a1 : Nat) (v2 : Int32) (v3 : Int32) (μ : zM) : Option (Int32) :=
  zbd (zbd (if (f_X1_surrounds a0 a1 v2 v3 μ) = 0 then
        some false
      else
        zbd (f_X1_hasRockUnder a0 a1 v2 v3 μ) fun r3 =>
        if ¬ r3 = 0 then
          some false
        else
          some true) fun b5 =>
    if b5 = true then
      some (1 : Int32)
    else
      some (0 : Int32)) fun x7 =>
  zg (z01 x7) <|
  some x7
set_option maxHeartbeats 4000000 in
set_option maxRecDepth 100000 in
theorem r_X1_floats {l : Launch} {g : zL} (a0 : Nat) (a1 : Nat) (v2 : Int32) (v3 : Int32) (μ : zM) (hT0 : zT zNN zσ1 a0 1) (hT1 : zT zNN zσ1 a1 1) {rv : Int32} (h : f_X1_floats a0 a1 v2 v3 μ = some rv) : zMet l g yX1_floats cX1_floats 4 (some (.boolean)) 1 0 0 zNN zNN zσ1 zσ1 [.ref (zb g + a0), .ref (zb g + a1), .int v2, .int v3] μ (some (.int rv)) μ := by
  refine zMet.of (by decide +kernel) (Nat.le_of_ble_eq_true rfl) ?_
  intro p e s m args below meth c C0
  refine z_loc (lo1 := [(0, .ref (zb g + a0)), (1, .ref (zb g + a1)), (2, .int v2), (3, .int v3)]) rfl ?_
  unfold f_X1_floats at h
  refine z_aload_n C0 dX1_floats_0 rfl 0 rfl ?_
  refine z_aload_n C0 dX1_floats_1 rfl 1 rfl ?_
  refine z_iload_n C0 dX1_floats_2 rfl 2 rfl ?_
  refine z_iload_n C0 dX1_floats_3 rfl 3 rfl ?_
  refine z_callV (As := [.ref (zb g + a1), .int v2, .int v3]) (rest := []) C0 rfl kc_X1_surrounds km_RX1_105 (r_X1_surrounds (l := l) (g := g) a0 a1 v2 v3 μ hT0 hT1 rfl) hT0.1 hT0.2.2.1 rfl (by decide) rfl (Nat.le_of_ble_eq_true rfl) (Nat.le_of_ble_eq_true rfl) (Nat.le_of_ble_eq_true rfl) (Nat.le_of_ble_eq_true rfl) (Nat.le_refl _) rfl rfl dX1_floats_4 ?_
  obtain ⟨x7, e_x7, h⟩ := zbd_of h
  refine z_join μ 25 [] [.int x7] ?_ (fun k_J6 => ?_)
  · obtain ⟨g8, h⟩ := zg_of h
    have h := Option.some.inj h
    obtain rfl := h
    exact z_zret C0 rfl g8 dX1_floats_25
  · have h := e_x7
    obtain ⟨b5, e_b5, h⟩ := zbd_of h
    refine z_joinb b5 μ 20 24 [(0, .ref (zb g + a0)), (1, .ref (zb g + a1)), (2, .int v2), (3, .int v3)] [] (fun z11 => ?_) (fun z11 => ?_) (fun k9 k10 => ?_)
    · have h := zif_t z11 h
      refine z_iconst (v := (1 : Int32)) C0 dX1_floats_20 (by decide) ?_
      refine z_goto C0 25 dX1_floats_21 (by decide) ?_
      refine z_sub (lo1 := []) [] rfl ?_
      obtain rfl := (Option.some.inj h)
      exact k_J6
    · have h := zif_f (fun q => Bool.noConfusion (z11.symm.trans q)) h
      refine z_iconst (v := (0 : Int32)) C0 dX1_floats_24 (by decide) ?_
      refine z_sub (lo1 := []) [] rfl ?_
      obtain rfl := (Option.some.inj h)
      exact k_J6
    · have h := e_b5
      refine z_if_eq C0 24 dX1_floats_7 (by decide) (fun c1 => ?_) (fun c1 => ?_)
      · have h := zif_t c1 h
        exact k10 (Option.some.inj h).symm
      · have h := zif_f c1 h
        refine z_aload_n C0 dX1_floats_10 rfl 0 rfl ?_
        refine z_aload_n C0 dX1_floats_11 rfl 1 rfl ?_
        refine z_iload_n C0 dX1_floats_12 rfl 2 rfl ?_
        refine z_iload_n C0 dX1_floats_13 rfl 3 rfl ?_
        obtain ⟨r3, e_r3, h⟩ := zbd_of h
        refine z_callV (As := [.ref (zb g + a1), .int v2, .int v3]) (rest := []) C0 rfl kc_X1_hasRockUnder km_RX1_109 (r_X1_hasRockUnder (l := l) (g := g) a0 a1 v2 v3 μ hT0 hT1 e_r3) hT0.1 hT0.2.2.1 rfl (by decide) rfl (Nat.le_of_ble_eq_true rfl) (Nat.le_of_ble_eq_true rfl) (Nat.le_of_ble_eq_true rfl) (Nat.le_of_ble_eq_true rfl) (Nat.le_refl _) rfl rfl dX1_floats_14 ?_
        refine z_if_ne C0 24 dX1_floats_17 (by decide) (fun c4 => ?_) (fun c4 => ?_)
        · have h := zif_t c4 h
          exact k10 (Option.some.inj h).symm
        · have h := zif_f (fun q => q c4) h
          exact k9 (Option.some.inj h).symm
def f_X1_graveList (a0 : Nat) (v1 : Int32) (μ : zM) : Int32 :=
  zl (if ¬ v1 = 0 then
      (μ (a0 + 13) 1)
    else
      (μ (a0 + 13) 0)) fun x3 =>
  x3
set_option maxHeartbeats 4000000 in
set_option maxRecDepth 100000 in
theorem r_X1_graveList {l : Launch} {g : zL} (a0 : Nat) (v1 : Int32) (μ : zM) (hT0 : zT zNN zσ1 a0 1) {rv : Int32} (h : f_X1_graveList a0 v1 μ = rv) : zMet l g yX1_graveList cX1_graveList 2 (some (.int)) 0 0 0 zNN zNN zσ1 zσ1 [.ref (zb g + a0), .int v1] μ (some (.int rv)) μ := by
  refine zMet.of (by decide +kernel) (Nat.le_of_ble_eq_true rfl) ?_
  intro p e s m args below meth c C0
  refine z_loc (lo1 := [(0, .ref (zb g + a0)), (1, .int v1)]) rfl ?_
  unfold f_X1_graveList at h
  refine z_iload_n C0 dX1_graveList_0 rfl 1 rfl ?_
  obtain ⟨x3, e_x3, h⟩ := zl_of h
  refine z_join μ 19 [] [.int x3] ?_ (fun k_J2 => ?_)
  · skip
    obtain rfl := h
    exact z_iret C0 rfl dX1_graveList_19
  · have h := e_x3.symm
    refine z_if_ne C0 13 dX1_graveList_1 (by decide) (fun c1 => ?_) (fun c1 => ?_)
    · have h := zif_t c1 h
      refine z_aload_n C0 dX1_graveList_13 rfl 0 rfl ?_
      refine z_getr C0 hT0 kf_1_39 zr_1_10 zx_1 (zs_1_10 hT0).1 dX1_graveList_14 ?_
      refine z_iconst (v := (1 : Int32)) C0 dX1_graveList_17 (by decide) ?_
      refine z_iald (j := 1) C0 (zs_1_10 hT0).2 (by decide : zin (1 : Int32) 2 = true) (by decide) dX1_graveList_18 ?_
      refine z_sub (lo1 := []) [] rfl ?_
      obtain rfl := h
      exact k_J2
    · have h := zif_f (fun q => q c1) h
      refine z_aload_n C0 dX1_graveList_4 rfl 0 rfl ?_
      refine z_getr C0 hT0 kf_1_39 zr_1_10 zx_1 (zs_1_10 hT0).1 dX1_graveList_5 ?_
      refine z_iconst (v := (0 : Int32)) C0 dX1_graveList_8 (by decide) ?_
      refine z_iald (j := 0) C0 (zs_1_10 hT0).2 (by decide : zin (0 : Int32) 2 = true) (by decide) dX1_graveList_9 ?_
      refine z_goto C0 19 dX1_graveList_10 (by decide) ?_
      refine z_sub (lo1 := []) [] rfl ?_
      obtain rfl := h
      exact k_J2
def f_X6_number (a0 : Nat) (v1 : Int32) (v2 : Int32) (μ : zM) : Option (Int32) :=
  zbd (if (¬ (v1 < 0)) ∧ ((¬ ((μ a0 2) ≤ v1)) ∧ ((¬ (v2 < 0)) ∧ (¬ ((3 : Int32) ≤ v2)))) then
      zg (zin ((v1 * (3 : Int32)) + v2) (zln (a0 + 1))) <|
      some (μ (a0 + 1) (((v1 * (3 : Int32)) + v2).toNatClampNeg))
    else
      some (-1 : Int32)) fun x7 =>
  some x7
set_option maxHeartbeats 4000000 in
set_option maxRecDepth 100000 in
theorem r_X6_number {l : Launch} {g : zL} {N : Nat} {σ : Nat → Nat → Bool} (a0 : Nat) (v1 : Int32) (v2 : Int32) (μ : zM) (hT0 : zT N σ a0 6) {rv : Int32} (h : f_X6_number a0 v1 v2 μ = some rv) : zMet l g yX6_number cX6_number 3 (some (.int)) 0 0 0 N N σ σ [.ref (zb g + a0), .int v1, .int v2] μ (some (.int rv)) μ := by
  refine zMet.of (by decide +kernel) (Nat.le_of_ble_eq_true rfl) ?_
  intro p e s m args below meth c C0
  refine z_loc (lo1 := [(0, .ref (zb g + a0)), (1, .int v1), (2, .int v2)]) rfl ?_
  unfold f_X6_number at h
  refine z_iload_n C0 dX6_number_0 rfl 1 rfl ?_
  obtain ⟨x7, e_x7, h⟩ := zbd_of h
  refine z_join μ 35 [] [.int x7] ?_ (fun k_J5 => ?_)
  · have h := Option.some.inj h
    obtain rfl := h
    exact z_iret C0 rfl dX6_number_35
  · have h := e_x7
    by_cases hc8 : (¬ (v1 < 0)) ∧ ((¬ ((μ a0 2) ≤ v1)) ∧ ((¬ (v2 < 0)) ∧ (¬ ((3 : Int32) ≤ v2))))
    · have h := zif_t hc8 h
      refine z_join μ 21 [(0, .ref (zb g + a0)), (1, .int v1), (2, .int v2)] [] ?_ (fun k9 => ?_)
      · refine z_aload_n C0 dX6_number_21 rfl 0 rfl ?_
        refine z_getr C0 hT0 kf_6_21 zr_6_1 zx_6 (zs_6_1 hT0).1 dX6_number_22 ?_
        refine z_iload_n C0 dX6_number_25 rfl 1 rfl ?_
        refine z_iconst (v := (3 : Int32)) C0 dX6_number_26 (by decide) ?_
        refine z_imul C0 dX6_number_27 ?_
        refine z_iload_n C0 dX6_number_28 rfl 2 rfl ?_
        refine z_iadd C0 dX6_number_29 ?_
        obtain ⟨g6, h⟩ := zg_of h
        refine z_iald C0 (zs_6_1 hT0).2 g6 rfl dX6_number_30 ?_
        refine z_goto C0 35 dX6_number_31 (by decide) ?_
        refine z_sub (lo1 := []) [] rfl ?_
        obtain rfl := (Option.some.inj h)
        exact k_J5
      · refine z_if_lt C0 34 dX6_number_1 (by decide) (fun c1 => ?_) (fun c1 => ?_)
        · exact absurd hc8 (fun q => q.1 c1)
        · refine z_iload_n C0 dX6_number_4 rfl 1 rfl ?_
          refine z_aload_n C0 dX6_number_5 rfl 0 rfl ?_
          refine z_geti C0 hT0.1 hT0.2.2.1 kf_6_25 zr_6_2 dX6_number_6 ?_
          refine z_icmp_ge C0 34 dX6_number_9 (by decide) (fun c2 => ?_) (fun c2 => ?_)
          · exact absurd hc8 (fun q => (fun q => q.1 c2) q.2)
          · refine z_iload_n C0 dX6_number_12 rfl 2 rfl ?_
            refine z_if_lt C0 34 dX6_number_13 (by decide) (fun c3 => ?_) (fun c3 => ?_)
            · exact absurd hc8 (fun q => (fun q => (fun q => q.1 c3) q.2) q.2)
            · refine z_iload_n C0 dX6_number_16 rfl 2 rfl ?_
              refine z_iconst (v := (3 : Int32)) C0 dX6_number_17 (by decide) ?_
              refine z_icmp_ge C0 34 dX6_number_18 (by decide) (fun c4 => ?_) (fun c4 => ?_)
              · exact absurd hc8 (fun q => (fun q => (fun q => (fun q => q c4) q.2) q.2) q.2)
              · exact k9
    · have h := zif_f hc8 h
      refine z_join μ 34 [(0, .ref (zb g + a0)), (1, .int v1), (2, .int v2)] [] ?_ (fun k10 => ?_)
      · refine z_iconst (v := (-1 : Int32)) C0 dX6_number_34 (by decide) ?_
        refine z_sub (lo1 := []) [] rfl ?_
        obtain rfl := (Option.some.inj h)
        exact k_J5
      · refine z_if_lt C0 34 dX6_number_1 (by decide) (fun c1 => ?_) (fun c1 => ?_)
        · exact k10
        · refine z_iload_n C0 dX6_number_4 rfl 1 rfl ?_
          refine z_aload_n C0 dX6_number_5 rfl 0 rfl ?_
          refine z_geti C0 hT0.1 hT0.2.2.1 kf_6_25 zr_6_2 dX6_number_6 ?_
          refine z_icmp_ge C0 34 dX6_number_9 (by decide) (fun c2 => ?_) (fun c2 => ?_)
          · exact k10
          · refine z_iload_n C0 dX6_number_12 rfl 2 rfl ?_
            refine z_if_lt C0 34 dX6_number_13 (by decide) (fun c3 => ?_) (fun c3 => ?_)
            · exact k10
            · refine z_iload_n C0 dX6_number_16 rfl 2 rfl ?_
              refine z_iconst (v := (3 : Int32)) C0 dX6_number_17 (by decide) ?_
              refine z_icmp_ge C0 34 dX6_number_18 (by decide) (fun c4 => ?_) (fun c4 => ?_)
              · exact k10
              · exact absurd ⟨c1, ⟨c2, ⟨c3, c4⟩⟩⟩ hc8
def f_X1_lean (a0 : Nat) (v1 : Int32) (μ : zM) : Int32 :=
  zl (if (μ (a0 + 1) 6) < (zabs v1) then
      (f_J6_signum_0f7a4 v1)
    else
      (0 : Int32)) fun x3 =>
  x3
set_option maxHeartbeats 4000000 in
set_option maxRecDepth 100000 in
theorem r_X1_lean {l : Launch} {g : zL} (a0 : Nat) (v1 : Int32) (μ : zM) (hT0 : zT zNN zσ1 a0 1) {rv : Int32} (h : f_X1_lean a0 v1 μ = rv) : zMet l g yX1_lean cX1_lean 2 (some (.int)) 1 0 0 zNN zNN zσ1 zσ1 [.ref (zb g + a0), .int v1] μ (some (.int rv)) μ := by
  refine zMet.of (by decide +kernel) (Nat.le_of_ble_eq_true rfl) ?_
  intro p e s m args below meth c C0
  refine z_loc (lo1 := [(0, .ref (zb g + a0)), (1, .int v1)]) rfl ?_
  unfold f_X1_lean at h
  refine z_iload_n C0 dX1_lean_0 rfl 1 rfl ?_
  refine z_mabs C0 rfl kM_RX1_97 kM_abs (Nat.le_of_ble_eq_true rfl) (Nat.zero_le _) (Nat.zero_le _) dX1_lean_1 ?_
  refine z_aload_n C0 dX1_lean_4 rfl 0 rfl ?_
  refine z_getr C0 hT0 kf_1_11 zr_1_0 zx_1 (zs_1_0 hT0).1 dX1_lean_5 ?_
  refine z_bipush (v := (6 : Int32)) C0 dX1_lean_8 (by decide) ?_
  refine z_iald (j := 6) C0 (zs_1_0 hT0).2 (by decide : zin (6 : Int32) 11 = true) (by decide) dX1_lean_10 ?_
  obtain ⟨x3, e_x3, h⟩ := zl_of h
  refine z_join μ 22 [] [.int x3] ?_ (fun k_J2 => ?_)
  · skip
    obtain rfl := h
    exact z_iret C0 rfl dX1_lean_22
  · have h := e_x3.symm
    refine z_icmp_gt C0 18 dX1_lean_11 (by decide) (fun c1 => ?_) (fun c1 => ?_)
    · have h := zif_t c1 h
      refine z_iload_n C0 dX1_lean_18 rfl 1 rfl ?_
      refine z_callS (As := [.int v1]) (rest := []) C0 rfl kc_J6_signum_0f7a4 km_RX1_100 (r_J6_signum_0f7a4 (l := l) (g := g) (μ := μ) v1 rfl) rfl (Nat.le_of_ble_eq_true rfl) (Nat.le_of_ble_eq_true rfl) (Nat.le_of_ble_eq_true rfl) (Nat.le_of_ble_eq_true rfl) (Nat.le_refl _) rfl rfl dX1_lean_19 ?_
      refine z_sub (lo1 := []) [] rfl ?_
      obtain rfl := h
      exact k_J2
    · have h := zif_f c1 h
      refine z_iconst (v := (0 : Int32)) C0 dX1_lean_14 (by decide) ?_
      refine z_goto C0 22 dX1_lean_15 (by decide) ?_
      refine z_sub (lo1 := []) [] rfl ?_
      obtain rfl := h
      exact k_J2
def f_X6_takeFrom (a0 : Nat) (a1 : Nat) (μ : zM) : Option (zM) :=
  zl (zup μ a0 2 (zmin (μ a0 0) (μ a1 2))) fun μ1 =>
  zg (zcpg (0 : Int32) (0 : Int32) ((μ1 a0 2) * (3 : Int32)) (zln (a1 + 1)) (zln (a0 + 1))) <|
  zl (zcp μ1 (a1 + 1) (a0 + 1) (0 : Int32) (0 : Int32) ((μ1 a0 2) * (3 : Int32))) fun μ3 =>
  some μ3
set_option maxHeartbeats 4000000 in
set_option maxRecDepth 100000 in
theorem r_X6_takeFrom {l : Launch} {g : zL} (a0 : Nat) (a1 : Nat) (μ : zM) (hT0 : zT zNN zσ1 a0 6) (hT1 : zT zNN zσ1 a1 6) {μr : zM} (h : f_X6_takeFrom a0 a1 μ = some μr) : zMet l g yX6_takeFrom cX6_takeFrom 2 none 1 0 0 zNN zNN zσ1 zσ1 [.ref (zb g + a0), .ref (zb g + a1)] μ none μr := by
  refine zMet.of (by decide +kernel) (Nat.le_of_ble_eq_true rfl) ?_
  intro p e s m args below meth c C0
  refine z_loc (lo1 := [(0, .ref (zb g + a0)), (1, .ref (zb g + a1))]) rfl ?_
  unfold f_X6_takeFrom at h
  refine z_aload_n C0 dX6_takeFrom_0 rfl 0 rfl ?_
  refine z_aload_n C0 dX6_takeFrom_1 rfl 0 rfl ?_
  refine z_geti C0 hT0.1 hT0.2.2.1 kf_6_15 zr_6_0 dX6_takeFrom_2 ?_
  refine z_aload_n C0 dX6_takeFrom_5 rfl 1 rfl ?_
  refine z_geti C0 hT1.1 hT1.2.2.1 kf_6_25 zr_6_2 dX6_takeFrom_6 ?_
  refine z_mmin C0 rfl kM_RX6_28 kM_min (Nat.le_of_ble_eq_true rfl) (Nat.zero_le _) (Nat.zero_le _) dX6_takeFrom_9 ?_
  obtain ⟨μ1, e_μ1, h⟩ := zl_of h
  refine z_puti C0 hT0.1 hT0.2.2.1 kf_6_25 zp_6_2 zr_6_2 e_μ1 dX6_takeFrom_12 ?_
  refine z_aload_n C0 dX6_takeFrom_15 rfl 1 rfl ?_
  refine z_getr C0 hT1 kf_6_21 zr_6_1 zx_6 (zs_6_1 hT1).1 dX6_takeFrom_16 ?_
  refine z_iconst (v := (0 : Int32)) C0 dX6_takeFrom_19 (by decide) ?_
  refine z_aload_n C0 dX6_takeFrom_20 rfl 0 rfl ?_
  refine z_getr C0 hT0 kf_6_21 zr_6_1 zx_6 (zs_6_1 hT0).1 dX6_takeFrom_21 ?_
  refine z_iconst (v := (0 : Int32)) C0 dX6_takeFrom_24 (by decide) ?_
  refine z_aload_n C0 dX6_takeFrom_25 rfl 0 rfl ?_
  refine z_geti C0 hT0.1 hT0.2.2.1 kf_6_25 zr_6_2 dX6_takeFrom_26 ?_
  refine z_iconst (v := (3 : Int32)) C0 dX6_takeFrom_29 (by decide) ?_
  refine z_imul C0 dX6_takeFrom_30 ?_
  obtain ⟨g2, h⟩ := zg_of h
  obtain ⟨μ3, e_μ3, h⟩ := zl_of h
  refine z_copyi C0 rfl km_RX6_31 kA (zs_6_1 hT1).2 (zs_6_1 hT0).2 g2 (Nat.le_of_ble_eq_true rfl) e_μ3 dX6_takeFrom_31 ?_
  have h := Option.some.inj h
  obtain rfl := h
  exact z_vret C0 rfl dX6_takeFrom_34
def f_X1_arm (a0 : Nat) (v1 : Int32) (v2 : Int32) (μ : zM) : Option (Int32) :=
  zbd (if (¬ (v1 < 0)) ∧ (¬ ((16 : Int32) ≤ v1)) then
      zl (if ¬ v2 = 0 then
          ((16 : Int32) + v1)
        else
          v1) fun x6 =>
      zg (zin x6 32) <|
      some (μ (a0 + 12) (x6.toNatClampNeg))
    else
      some (0 : Int32)) fun x8 =>
  some x8
set_option maxHeartbeats 4000000 in
set_option maxRecDepth 100000 in
theorem r_X1_arm {l : Launch} {g : zL} {N : Nat} {σ : Nat → Nat → Bool} (a0 : Nat) (v1 : Int32) (v2 : Int32) (μ : zM) (hT0 : zT N σ a0 1) {rv : Int32} (h : f_X1_arm a0 v1 v2 μ = some rv) : zMet l g yX1_arm cX1_arm 3 (some (.int)) 0 0 0 N N σ σ [.ref (zb g + a0), .int v1, .int v2] μ (some (.int rv)) μ := by
  refine zMet.of (by decide +kernel) (Nat.le_of_ble_eq_true rfl) ?_
  intro p e s m args below meth c C0
  refine z_loc (lo1 := [(0, .ref (zb g + a0)), (1, .int v1), (2, .int v2)]) rfl ?_
  unfold f_X1_arm at h
  refine z_iload_n C0 dX1_arm_0 rfl 1 rfl ?_
  obtain ⟨x8, e_x8, h⟩ := zbd_of h
  refine z_join μ 31 [] [.int x8] ?_ (fun k_J3 => ?_)
  · have h := Option.some.inj h
    obtain rfl := h
    exact z_iret C0 rfl dX1_arm_31
  · have h := e_x8
    by_cases hc9 : (¬ (v1 < 0)) ∧ (¬ ((16 : Int32) ≤ v1))
    · have h := zif_t hc9 h
      refine z_join μ 10 [(0, .ref (zb g + a0)), (1, .int v1), (2, .int v2)] [] ?_ (fun k10 => ?_)
      · refine z_aload_n C0 dX1_arm_10 rfl 0 rfl ?_
        refine z_getr C0 hT0 kf_1_36 zr_1_9 zx_1 (zs_1_9 hT0).1 dX1_arm_11 ?_
        refine z_iload_n C0 dX1_arm_14 rfl 2 rfl ?_
        obtain ⟨x6, e_x6, h⟩ := zl_of h
        refine z_join μ 26 [] [.int x6, .ref (zb g + (a0 + 12))] ?_ (fun k_J5 => ?_)
        · obtain ⟨g7, h⟩ := zg_of h
          refine z_iald C0 (zs_1_9 hT0).2 g7 rfl dX1_arm_26 ?_
          refine z_goto C0 31 dX1_arm_27 (by decide) ?_
          obtain rfl := (Option.some.inj h)
          exact k_J3
        · have h := e_x6.symm
          refine z_if_ne C0 22 dX1_arm_15 (by decide) (fun c4 => ?_) (fun c4 => ?_)
          · have h := zif_t c4 h
            refine z_bipush (v := (16 : Int32)) C0 dX1_arm_22 (by decide) ?_
            refine z_iload_n C0 dX1_arm_24 rfl 1 rfl ?_
            refine z_iadd C0 dX1_arm_25 ?_
            refine z_sub (lo1 := []) [] rfl ?_
            obtain rfl := h
            exact k_J5
          · have h := zif_f (fun q => q c4) h
            refine z_iload_n C0 dX1_arm_18 rfl 1 rfl ?_
            refine z_goto C0 26 dX1_arm_19 (by decide) ?_
            refine z_sub (lo1 := []) [] rfl ?_
            obtain rfl := h
            exact k_J5
      · refine z_if_lt C0 30 dX1_arm_1 (by decide) (fun c1 => ?_) (fun c1 => ?_)
        · exact absurd hc9 (fun q => q.1 c1)
        · refine z_iload_n C0 dX1_arm_4 rfl 1 rfl ?_
          refine z_bipush (v := (16 : Int32)) C0 dX1_arm_5 (by decide) ?_
          refine z_icmp_ge C0 30 dX1_arm_7 (by decide) (fun c2 => ?_) (fun c2 => ?_)
          · exact absurd hc9 (fun q => (fun q => q c2) q.2)
          · exact k10
    · have h := zif_f hc9 h
      refine z_join μ 30 [(0, .ref (zb g + a0)), (1, .int v1), (2, .int v2)] [] ?_ (fun k11 => ?_)
      · refine z_iconst (v := (0 : Int32)) C0 dX1_arm_30 (by decide) ?_
        refine z_sub (lo1 := []) [] rfl ?_
        obtain rfl := (Option.some.inj h)
        exact k_J3
      · refine z_if_lt C0 30 dX1_arm_1 (by decide) (fun c1 => ?_) (fun c1 => ?_)
        · exact k11
        · refine z_iload_n C0 dX1_arm_4 rfl 1 rfl ?_
          refine z_bipush (v := (16 : Int32)) C0 dX1_arm_5 (by decide) ?_
          refine z_icmp_ge C0 30 dX1_arm_7 (by decide) (fun c2 => ?_) (fun c2 => ?_)
          · exact k11
          · exact absurd ⟨c1, c2⟩ hc9
def f_X1_settle_L30 (a0 : Nat) : Nat → Int32 → zM → Option (zM)
  | 0, _, _ => none
  | n + 1, y4, μ5 =>
    if (16 : Int32) ≤ y4 then
      some μ5
    else
      zg (znz (μ5 a0 6)) <|
      zg (zin y4 32) <|
      zl (zup μ5 (a0 + 12) (y4.toNatClampNeg) ((((2 : Int32) * (y4 % (μ5 a0 6))) + (1 : Int32)) - (μ5 a0 6))) fun μ9 =>
      zg (znz (μ9 a0 6)) <|
      zg (zin ((16 : Int32) + y4) 32) <|
      zl (zup μ9 (a0 + 12) (((16 : Int32) + y4).toNatClampNeg) ((((2 : Int32) * (y4 / (μ9 a0 6))) + (1 : Int32)) - (μ9 a0 7))) fun μ12 =>
      zl (y4 + (1 : Int32)) fun x13 =>
      f_X1_settle_L30 a0 n x13 μ12
def f_X1_settle_L103 (a0 : Nat) : Nat → Int32 → zM → Option (zM)
  | 0, _, _ => none
  | n + 1, y18, μ19 =>
    if (μ19 (a0 + 4) 2) ≤ y18 then
      some μ19
    else
      zbd (f_X6_number (a0 + 4) y18 (1 : Int32) μ19) fun r21 =>
      zbd (f_X6_number (a0 + 4) y18 (0 : Int32) μ19) fun r22 =>
      zbd (f_X1_arm a0 r22 (0 : Int32) μ19) fun r23 =>
      zl (zup μ19 (a0 + 13) 0 ((μ19 (a0 + 13) 0) + (r21 * r23))) fun μ24 =>
      zbd (f_X6_number (a0 + 4) y18 (1 : Int32) μ24) fun r25 =>
      zbd (f_X6_number (a0 + 4) y18 (0 : Int32) μ24) fun r26 =>
      zbd (f_X1_arm a0 r26 (1 : Int32) μ24) fun r27 =>
      zl (zup μ24 (a0 + 13) 1 ((μ24 (a0 + 13) 1) + (r25 * r27))) fun μ28 =>
      zl (y18 + (1 : Int32)) fun x29 =>
      f_X1_settle_L103 a0 n x29 μ28
def f_X1_settle_L193 (a0 : Nat) : Nat → Int32 → zM → Option (zM)
  | 0, _, _ => none
  | n + 1, y33, μ34 =>
    if (μ34 (a0 + 6) 2) ≤ y33 then
      some μ34
    else
      zbd (f_X6_number (a0 + 6) y33 (0 : Int32) μ34) fun r36 =>
      zl (zup μ34 a0 8 ((μ34 a0 8) + r36)) fun μ37 =>
      zl (y33 + (1 : Int32)) fun x38 =>
      f_X1_settle_L193 a0 n x38 μ37
def f_X1_settle_L230 (a0 : Nat) : Nat → Int32 → zM → Option (zM)
  | 0, _, _ => none
  | n + 1, y41, μ42 =>
    if (12 : Int32) ≤ y41 then
      some μ42
    else
      zg (zin y41 12) <|
      zl (zup μ42 (a0 + 14) (y41.toNatClampNeg) (0 : Int32)) fun μ45 =>
      zl (y41 + (1 : Int32)) fun x46 =>
      f_X1_settle_L230 a0 n x46 μ45
def f_X1_settle_L251 (a0 : Nat) : Nat → Int32 → zM → Option (zM)
  | 0, _, _ => none
  | n + 1, y49, μ50 =>
    if (μ50 (a0 + 2) 2) ≤ y49 then
      some μ50
    else
      zbd (f_X6_number (a0 + 2) y49 (1 : Int32) μ50) fun r52 =>
      zbd (if (¬ (r52 < 0)) ∧ (¬ ((12 : Int32) ≤ r52)) then
          zg (zin r52 12) <|
          zbd (f_X6_number (a0 + 2) y49 (0 : Int32) μ50) fun r57 =>
          zl (zup μ50 (a0 + 14) (r52.toNatClampNeg) ((μ50 (a0 + 14) (r52.toNatClampNeg)) ||| ((1 : Int32) <<< (r57 &&& 31)))) fun μ58 =>
          some μ58
        else
          some μ50) fun μ59 =>
      zl (y49 + (1 : Int32)) fun x60 =>
      f_X1_settle_L251 a0 n x60 μ59
def f_X1_settle (a0 : Nat) (μ : zM) : Option (zM) :=
  zl (zup μ a0 6 (zmax (1 : Int32) (μ (a0 + 1) 2))) fun μ1 =>
  zl (zup μ1 a0 7 (zmax (1 : Int32) (μ1 (a0 + 1) 3))) fun μ2 =>
  zbd (f_X1_settle_L30 a0 zFU (0 : Int32) μ2) fun μ14 =>
  zl (zup μ14 (a0 + 13) 0 (0 : Int32)) fun μ15 =>
  zl (zup μ15 (a0 + 13) 1 (0 : Int32)) fun μ16 =>
  zbd (f_X1_settle_L103 a0 zFU (0 : Int32) μ16) fun μ30 =>
  zl (zup μ30 a0 8 (0 : Int32)) fun μ31 =>
  zbd (f_X1_settle_L193 a0 zFU (0 : Int32) μ31) fun μ39 =>
  zbd (f_X1_settle_L230 a0 zFU (0 : Int32) μ39) fun μ47 =>
  zbd (f_X1_settle_L251 a0 zFU (0 : Int32) μ47) fun μ61 =>
  some μ61
set_option maxHeartbeats 4000000 in
set_option maxRecDepth 100000 in
theorem r_X1_settle_L30 {l : Launch} {g : zL} {N : Nat} {σ : Nat → Nat → Bool} {p : Program} {e : Env} {s : State} {m : MethodId} {args : Array Value} {below : List Frame} {meth : Method} {c : Code} {Q : State → Prop} (C0 : zC p s m args meth c g cX1_settle yX1_settle 3 none) (a0 : Nat) (hU3 : zT N σ a0 1) : ∀ (n : Nat) (y4 : Int32) (μ5 : zM) (μ14 : zM), f_X1_settle_L30 a0 n y4 μ5 = some μ14 → Z p l e (zrm 1 0 0) s m args below meth c g Q 3 N 0 0 σ μ14 87 [(0, .ref (zb g + a0))] [] → Z p l e (zrm 1 0 0) s m args below meth c g Q 3 N 0 0 σ μ5 30 [(0, .ref (zb g + a0)), (1, .int y4)] [] := by
  intro n
  induction n with
  | zero =>
    intro y4 μ5 μ14 h kx
    rw [f_X1_settle_L30] at h
    cases h
  | succ n ih =>
    intro y4 μ5 μ14 h kx
    rw [f_X1_settle_L30] at h
    refine z_iload_n C0 dX1_settle_30 rfl 1 rfl ?_
    refine z_bipush (v := (16 : Int32)) C0 dX1_settle_31 (by decide) ?_
    refine z_icmp_ge C0 87 dX1_settle_33 (by decide) (fun c6 => ?_) (fun c6 => ?_)
    · have h := zif_t c6 h
      refine z_sub (lo1 := [(0, .ref (zb g + a0))]) [0] rfl ?_
      obtain rfl := (Option.some.inj h)
      exact kx
    · have h := zif_f c6 h
      refine z_aload_n C0 dX1_settle_36 rfl 0 rfl ?_
      refine z_getr C0 hU3 kf_1_36 zr_1_9 zx_1 (zs_1_9 hU3).1 dX1_settle_37 ?_
      refine z_iload_n C0 dX1_settle_40 rfl 1 rfl ?_
      refine z_iconst (v := (2 : Int32)) C0 dX1_settle_41 (by decide) ?_
      refine z_iload_n C0 dX1_settle_42 rfl 1 rfl ?_
      refine z_aload_n C0 dX1_settle_43 rfl 0 rfl ?_
      refine z_geti C0 hU3.1 hU3.2.2.1 kf_1_74 zr_1_6 dX1_settle_44 ?_
      obtain ⟨g7, h⟩ := zg_of h
      refine z_irem C0 dX1_settle_47 g7 ?_
      refine z_imul C0 dX1_settle_48 ?_
      refine z_iconst (v := (1 : Int32)) C0 dX1_settle_49 (by decide) ?_
      refine z_iadd C0 dX1_settle_50 ?_
      refine z_aload_n C0 dX1_settle_51 rfl 0 rfl ?_
      refine z_geti C0 hU3.1 hU3.2.2.1 kf_1_74 zr_1_6 dX1_settle_52 ?_
      refine z_isub C0 dX1_settle_55 ?_
      obtain ⟨g8, h⟩ := zg_of h
      obtain ⟨μ9, e_μ9, h⟩ := zl_of h
      refine z_iast C0 (zs_1_9 hU3).2 g8 rfl e_μ9 dX1_settle_56 ?_
      refine z_aload_n C0 dX1_settle_57 rfl 0 rfl ?_
      refine z_getr C0 hU3 kf_1_36 zr_1_9 zx_1 (zs_1_9 hU3).1 dX1_settle_58 ?_
      refine z_bipush (v := (16 : Int32)) C0 dX1_settle_61 (by decide) ?_
      refine z_iload_n C0 dX1_settle_63 rfl 1 rfl ?_
      refine z_iadd C0 dX1_settle_64 ?_
      refine z_iconst (v := (2 : Int32)) C0 dX1_settle_65 (by decide) ?_
      refine z_iload_n C0 dX1_settle_66 rfl 1 rfl ?_
      refine z_aload_n C0 dX1_settle_67 rfl 0 rfl ?_
      refine z_geti C0 hU3.1 hU3.2.2.1 kf_1_74 zr_1_6 dX1_settle_68 ?_
      obtain ⟨g10, h⟩ := zg_of h
      refine z_idiv C0 dX1_settle_71 g10 ?_
      refine z_imul C0 dX1_settle_72 ?_
      refine z_iconst (v := (1 : Int32)) C0 dX1_settle_73 (by decide) ?_
      refine z_iadd C0 dX1_settle_74 ?_
      refine z_aload_n C0 dX1_settle_75 rfl 0 rfl ?_
      refine z_geti C0 hU3.1 hU3.2.2.1 kf_1_77 zr_1_7 dX1_settle_76 ?_
      refine z_isub C0 dX1_settle_79 ?_
      obtain ⟨g11, h⟩ := zg_of h
      obtain ⟨μ12, e_μ12, h⟩ := zl_of h
      refine z_iast C0 (zs_1_9 hU3).2 g11 rfl e_μ12 dX1_settle_80 ?_
      obtain ⟨x13, e_x13, h⟩ := zl_of h
      refine z_iinc (lo1 := [(1, .int x13), (0, .ref (zb g + a0))]) C0 dX1_settle_81 1 rfl (by decide) e_x13.symm (by decide) rfl ?_
      refine z_goto C0 30 dX1_settle_84 (by decide) ?_
      refine z_sub (lo1 := [(0, .ref (zb g + a0)), (1, .int x13)]) [1, 0] rfl ?_
      exact ih _ _ _ h kx
set_option maxHeartbeats 4000000 in
set_option maxRecDepth 100000 in
theorem r_X1_settle_L103 {l : Launch} {g : zL} {N : Nat} {σ : Nat → Nat → Bool} {p : Program} {e : Env} {s : State} {m : MethodId} {args : Array Value} {below : List Frame} {meth : Method} {c : Code} {Q : State → Prop} (C0 : zC p s m args meth c g cX1_settle yX1_settle 3 none) (a0 : Nat) (hU17 : zT N σ a0 1) : ∀ (n : Nat) (y18 : Int32) (μ19 : zM) (μ30 : zM), f_X1_settle_L103 a0 n y18 μ19 = some μ30 → Z p l e (zrm 1 0 0) s m args below meth c g Q 3 N 0 0 σ μ30 186 [(0, .ref (zb g + a0))] [] → Z p l e (zrm 1 0 0) s m args below meth c g Q 3 N 0 0 σ μ19 103 [(0, .ref (zb g + a0)), (1, .int y18)] [] := by
  intro n
  induction n with
  | zero =>
    intro y18 μ19 μ30 h kx
    rw [f_X1_settle_L103] at h
    cases h
  | succ n ih =>
    intro y18 μ19 μ30 h kx
    rw [f_X1_settle_L103] at h
    refine z_iload_n C0 dX1_settle_103 rfl 1 rfl ?_
    refine z_aload_n C0 dX1_settle_104 rfl 0 rfl ?_
    refine z_getr C0 hU17 kf_1_24 zr_1_2 zx_1 (zs_1_2 hU17).1 dX1_settle_105 ?_
    refine z_geti C0 (zs_1_2 hU17).2.1 (zs_1_2 hU17).2.2.2.1 kf_1_60 zr_6_2 dX1_settle_108 ?_
    refine z_icmp_ge C0 186 dX1_settle_111 (by decide) (fun c20 => ?_) (fun c20 => ?_)
    · have h := zif_t c20 h
      refine z_sub (lo1 := [(0, .ref (zb g + a0))]) [0] rfl ?_
      obtain rfl := (Option.some.inj h)
      exact kx
    · have h := zif_f c20 h
      refine z_aload_n C0 dX1_settle_114 rfl 0 rfl ?_
      refine z_getr C0 hU17 kf_1_39 zr_1_10 zx_1 (zs_1_10 hU17).1 dX1_settle_115 ?_
      refine z_iconst (v := (0 : Int32)) C0 dX1_settle_118 (by decide) ?_
      refine z_dup2 C0 dX1_settle_119 rfl rfl ?_
      refine z_iald (j := 0) C0 (zs_1_10 hU17).2 (by decide : zin (0 : Int32) 2 = true) (by decide) dX1_settle_120 ?_
      refine z_aload_n C0 dX1_settle_121 rfl 0 rfl ?_
      refine z_getr C0 hU17 kf_1_24 zr_1_2 zx_1 (zs_1_2 hU17).1 dX1_settle_122 ?_
      refine z_iload_n C0 dX1_settle_125 rfl 1 rfl ?_
      refine z_iconst (v := (1 : Int32)) C0 dX1_settle_126 (by decide) ?_
      obtain ⟨r21, e_r21, h⟩ := zbd_of h
      refine z_callV (As := [.int y18, .int (1 : Int32)]) (rest := [.int (μ19 (a0 + 13) 0), .int (0 : Int32), .ref (zb g + (a0 + 13))]) C0 rfl kc_X6_number km_RX1_80 (r_X6_number (l := l) (g := g) (a0 + 4) y18 (1 : Int32) μ19 (zs_1_2 hU17).2 e_r21) (zs_1_2 hU17).2.1 (zs_1_2 hU17).2.2.2.1 rfl (by decide) rfl (Nat.le_of_ble_eq_true rfl) (Nat.le_of_ble_eq_true rfl) (Nat.le_of_ble_eq_true rfl) (Nat.le_of_ble_eq_true rfl) (Nat.le_refl _) rfl rfl dX1_settle_127 ?_
      refine z_aload_n C0 dX1_settle_130 rfl 0 rfl ?_
      refine z_aload_n C0 dX1_settle_131 rfl 0 rfl ?_
      refine z_getr C0 hU17 kf_1_24 zr_1_2 zx_1 (zs_1_2 hU17).1 dX1_settle_132 ?_
      refine z_iload_n C0 dX1_settle_135 rfl 1 rfl ?_
      refine z_iconst (v := (0 : Int32)) C0 dX1_settle_136 (by decide) ?_
      obtain ⟨r22, e_r22, h⟩ := zbd_of h
      refine z_callV (As := [.int y18, .int (0 : Int32)]) (rest := [.ref (zb g + a0), .int r21, .int (μ19 (a0 + 13) 0), .int (0 : Int32), .ref (zb g + (a0 + 13))]) C0 rfl kc_X6_number km_RX1_80 (r_X6_number (l := l) (g := g) (a0 + 4) y18 (0 : Int32) μ19 (zs_1_2 hU17).2 e_r22) (zs_1_2 hU17).2.1 (zs_1_2 hU17).2.2.2.1 rfl (by decide) rfl (Nat.le_of_ble_eq_true rfl) (Nat.le_of_ble_eq_true rfl) (Nat.le_of_ble_eq_true rfl) (Nat.le_of_ble_eq_true rfl) (Nat.le_refl _) rfl rfl dX1_settle_137 ?_
      refine z_iconst (v := (0 : Int32)) C0 dX1_settle_140 (by decide) ?_
      obtain ⟨r23, e_r23, h⟩ := zbd_of h
      refine z_callV (As := [.int r22, .int (0 : Int32)]) (rest := [.int r21, .int (μ19 (a0 + 13) 0), .int (0 : Int32), .ref (zb g + (a0 + 13))]) C0 rfl kc_X1_arm km_RX1_83 (r_X1_arm (l := l) (g := g) a0 r22 (0 : Int32) μ19 hU17 e_r23) hU17.1 hU17.2.2.1 rfl (by decide) rfl (Nat.le_of_ble_eq_true rfl) (Nat.le_of_ble_eq_true rfl) (Nat.le_of_ble_eq_true rfl) (Nat.le_of_ble_eq_true rfl) (Nat.le_refl _) rfl rfl dX1_settle_141 ?_
      refine z_imul C0 dX1_settle_144 ?_
      refine z_iadd C0 dX1_settle_145 ?_
      obtain ⟨μ24, e_μ24, h⟩ := zl_of h
      refine z_iast (j := 0) C0 (zs_1_10 hU17).2 (by decide : zin (0 : Int32) 2 = true) (by decide) e_μ24 dX1_settle_146 ?_
      refine z_aload_n C0 dX1_settle_147 rfl 0 rfl ?_
      refine z_getr C0 hU17 kf_1_39 zr_1_10 zx_1 (zs_1_10 hU17).1 dX1_settle_148 ?_
      refine z_iconst (v := (1 : Int32)) C0 dX1_settle_151 (by decide) ?_
      refine z_dup2 C0 dX1_settle_152 rfl rfl ?_
      refine z_iald (j := 1) C0 (zs_1_10 hU17).2 (by decide : zin (1 : Int32) 2 = true) (by decide) dX1_settle_153 ?_
      refine z_aload_n C0 dX1_settle_154 rfl 0 rfl ?_
      refine z_getr C0 hU17 kf_1_24 zr_1_2 zx_1 (zs_1_2 hU17).1 dX1_settle_155 ?_
      refine z_iload_n C0 dX1_settle_158 rfl 1 rfl ?_
      refine z_iconst (v := (1 : Int32)) C0 dX1_settle_159 (by decide) ?_
      obtain ⟨r25, e_r25, h⟩ := zbd_of h
      refine z_callV (As := [.int y18, .int (1 : Int32)]) (rest := [.int (μ24 (a0 + 13) 1), .int (1 : Int32), .ref (zb g + (a0 + 13))]) C0 rfl kc_X6_number km_RX1_80 (r_X6_number (l := l) (g := g) (a0 + 4) y18 (1 : Int32) μ24 (zs_1_2 hU17).2 e_r25) (zs_1_2 hU17).2.1 (zs_1_2 hU17).2.2.2.1 rfl (by decide) rfl (Nat.le_of_ble_eq_true rfl) (Nat.le_of_ble_eq_true rfl) (Nat.le_of_ble_eq_true rfl) (Nat.le_of_ble_eq_true rfl) (Nat.le_refl _) rfl rfl dX1_settle_160 ?_
      refine z_aload_n C0 dX1_settle_163 rfl 0 rfl ?_
      refine z_aload_n C0 dX1_settle_164 rfl 0 rfl ?_
      refine z_getr C0 hU17 kf_1_24 zr_1_2 zx_1 (zs_1_2 hU17).1 dX1_settle_165 ?_
      refine z_iload_n C0 dX1_settle_168 rfl 1 rfl ?_
      refine z_iconst (v := (0 : Int32)) C0 dX1_settle_169 (by decide) ?_
      obtain ⟨r26, e_r26, h⟩ := zbd_of h
      refine z_callV (As := [.int y18, .int (0 : Int32)]) (rest := [.ref (zb g + a0), .int r25, .int (μ24 (a0 + 13) 1), .int (1 : Int32), .ref (zb g + (a0 + 13))]) C0 rfl kc_X6_number km_RX1_80 (r_X6_number (l := l) (g := g) (a0 + 4) y18 (0 : Int32) μ24 (zs_1_2 hU17).2 e_r26) (zs_1_2 hU17).2.1 (zs_1_2 hU17).2.2.2.1 rfl (by decide) rfl (Nat.le_of_ble_eq_true rfl) (Nat.le_of_ble_eq_true rfl) (Nat.le_of_ble_eq_true rfl) (Nat.le_of_ble_eq_true rfl) (Nat.le_refl _) rfl rfl dX1_settle_170 ?_
      refine z_iconst (v := (1 : Int32)) C0 dX1_settle_173 (by decide) ?_
      obtain ⟨r27, e_r27, h⟩ := zbd_of h
      refine z_callV (As := [.int r26, .int (1 : Int32)]) (rest := [.int r25, .int (μ24 (a0 + 13) 1), .int (1 : Int32), .ref (zb g + (a0 + 13))]) C0 rfl kc_X1_arm km_RX1_83 (r_X1_arm (l := l) (g := g) a0 r26 (1 : Int32) μ24 hU17 e_r27) hU17.1 hU17.2.2.1 rfl (by decide) rfl (Nat.le_of_ble_eq_true rfl) (Nat.le_of_ble_eq_true rfl) (Nat.le_of_ble_eq_true rfl) (Nat.le_of_ble_eq_true rfl) (Nat.le_refl _) rfl rfl dX1_settle_174 ?_
      refine z_imul C0 dX1_settle_177 ?_
      refine z_iadd C0 dX1_settle_178 ?_
      obtain ⟨μ28, e_μ28, h⟩ := zl_of h
      refine z_iast (j := 1) C0 (zs_1_10 hU17).2 (by decide : zin (1 : Int32) 2 = true) (by decide) e_μ28 dX1_settle_179 ?_
      obtain ⟨x29, e_x29, h⟩ := zl_of h
      refine z_iinc (lo1 := [(1, .int x29), (0, .ref (zb g + a0))]) C0 dX1_settle_180 1 rfl (by decide) e_x29.symm (by decide) rfl ?_
      refine z_goto C0 103 dX1_settle_183 (by decide) ?_
      refine z_sub (lo1 := [(0, .ref (zb g + a0)), (1, .int x29)]) [1, 0] rfl ?_
      exact ih _ _ _ h kx
set_option maxHeartbeats 4000000 in
set_option maxRecDepth 100000 in
theorem r_X1_settle_L193 {l : Launch} {g : zL} {N : Nat} {σ : Nat → Nat → Bool} {p : Program} {e : Env} {s : State} {m : MethodId} {args : Array Value} {below : List Frame} {meth : Method} {c : Code} {Q : State → Prop} (C0 : zC p s m args meth c g cX1_settle yX1_settle 3 none) (a0 : Nat) (hU32 : zT N σ a0 1) : ∀ (n : Nat) (y33 : Int32) (μ34 : zM) (μ39 : zM), f_X1_settle_L193 a0 n y33 μ34 = some μ39 → Z p l e (zrm 1 0 0) s m args below meth c g Q 3 N 0 0 σ μ39 228 [(0, .ref (zb g + a0))] [] → Z p l e (zrm 1 0 0) s m args below meth c g Q 3 N 0 0 σ μ34 193 [(0, .ref (zb g + a0)), (1, .int y33)] [] := by
  intro n
  induction n with
  | zero =>
    intro y33 μ34 μ39 h kx
    rw [f_X1_settle_L193] at h
    cases h
  | succ n ih =>
    intro y33 μ34 μ39 h kx
    rw [f_X1_settle_L193] at h
    refine z_iload_n C0 dX1_settle_193 rfl 1 rfl ?_
    refine z_aload_n C0 dX1_settle_194 rfl 0 rfl ?_
    refine z_getr C0 hU32 kf_1_27 zr_1_3 zx_1 (zs_1_3 hU32).1 dX1_settle_195 ?_
    refine z_geti C0 (zs_1_3 hU32).2.1 (zs_1_3 hU32).2.2.2.1 kf_1_60 zr_6_2 dX1_settle_198 ?_
    refine z_icmp_ge C0 228 dX1_settle_201 (by decide) (fun c35 => ?_) (fun c35 => ?_)
    · have h := zif_t c35 h
      refine z_sub (lo1 := [(0, .ref (zb g + a0))]) [0] rfl ?_
      obtain rfl := (Option.some.inj h)
      exact kx
    · have h := zif_f c35 h
      refine z_aload_n C0 dX1_settle_204 rfl 0 rfl ?_
      refine z_dup C0 dX1_settle_205 rfl ?_
      refine z_geti C0 hU32.1 hU32.2.2.1 kf_1_86 zr_1_8 dX1_settle_206 ?_
      refine z_aload_n C0 dX1_settle_209 rfl 0 rfl ?_
      refine z_getr C0 hU32 kf_1_27 zr_1_3 zx_1 (zs_1_3 hU32).1 dX1_settle_210 ?_
      refine z_iload_n C0 dX1_settle_213 rfl 1 rfl ?_
      refine z_iconst (v := (0 : Int32)) C0 dX1_settle_214 (by decide) ?_
      obtain ⟨r36, e_r36, h⟩ := zbd_of h
      refine z_callV (As := [.int y33, .int (0 : Int32)]) (rest := [.int (μ34 a0 8), .ref (zb g + a0)]) C0 rfl kc_X6_number km_RX1_80 (r_X6_number (l := l) (g := g) (a0 + 6) y33 (0 : Int32) μ34 (zs_1_3 hU32).2 e_r36) (zs_1_3 hU32).2.1 (zs_1_3 hU32).2.2.2.1 rfl (by decide) rfl (Nat.le_of_ble_eq_true rfl) (Nat.le_of_ble_eq_true rfl) (Nat.le_of_ble_eq_true rfl) (Nat.le_of_ble_eq_true rfl) (Nat.le_refl _) rfl rfl dX1_settle_215 ?_
      refine z_iadd C0 dX1_settle_218 ?_
      obtain ⟨μ37, e_μ37, h⟩ := zl_of h
      refine z_puti C0 hU32.1 hU32.2.2.1 kf_1_86 zp_1_8 zr_1_8 e_μ37 dX1_settle_219 ?_
      obtain ⟨x38, e_x38, h⟩ := zl_of h
      refine z_iinc (lo1 := [(1, .int x38), (0, .ref (zb g + a0))]) C0 dX1_settle_222 1 rfl (by decide) e_x38.symm (by decide) rfl ?_
      refine z_goto C0 193 dX1_settle_225 (by decide) ?_
      refine z_sub (lo1 := [(0, .ref (zb g + a0)), (1, .int x38)]) [1, 0] rfl ?_
      exact ih _ _ _ h kx
set_option maxHeartbeats 4000000 in
set_option maxRecDepth 100000 in
theorem r_X1_settle_L230 {l : Launch} {g : zL} {N : Nat} {σ : Nat → Nat → Bool} {p : Program} {e : Env} {s : State} {m : MethodId} {args : Array Value} {below : List Frame} {meth : Method} {c : Code} {Q : State → Prop} (C0 : zC p s m args meth c g cX1_settle yX1_settle 3 none) (a0 : Nat) (hU40 : zT N σ a0 1) : ∀ (n : Nat) (y41 : Int32) (μ42 : zM) (μ47 : zM), f_X1_settle_L230 a0 n y41 μ42 = some μ47 → Z p l e (zrm 1 0 0) s m args below meth c g Q 3 N 0 0 σ μ47 249 [(0, .ref (zb g + a0))] [] → Z p l e (zrm 1 0 0) s m args below meth c g Q 3 N 0 0 σ μ42 230 [(0, .ref (zb g + a0)), (1, .int y41)] [] := by
  intro n
  induction n with
  | zero =>
    intro y41 μ42 μ47 h kx
    rw [f_X1_settle_L230] at h
    cases h
  | succ n ih =>
    intro y41 μ42 μ47 h kx
    rw [f_X1_settle_L230] at h
    refine z_iload_n C0 dX1_settle_230 rfl 1 rfl ?_
    refine z_bipush (v := (12 : Int32)) C0 dX1_settle_231 (by decide) ?_
    refine z_icmp_ge C0 249 dX1_settle_233 (by decide) (fun c43 => ?_) (fun c43 => ?_)
    · have h := zif_t c43 h
      refine z_sub (lo1 := [(0, .ref (zb g + a0))]) [0] rfl ?_
      obtain rfl := (Option.some.inj h)
      exact kx
    · have h := zif_f c43 h
      refine z_aload_n C0 dX1_settle_236 rfl 0 rfl ?_
      refine z_getr C0 hU40 kf_1_42 zr_1_11 zx_1 (zs_1_11 hU40).1 dX1_settle_237 ?_
      refine z_iload_n C0 dX1_settle_240 rfl 1 rfl ?_
      refine z_iconst (v := (0 : Int32)) C0 dX1_settle_241 (by decide) ?_
      obtain ⟨g44, h⟩ := zg_of h
      obtain ⟨μ45, e_μ45, h⟩ := zl_of h
      refine z_iast C0 (zs_1_11 hU40).2 g44 rfl e_μ45 dX1_settle_242 ?_
      obtain ⟨x46, e_x46, h⟩ := zl_of h
      refine z_iinc (lo1 := [(1, .int x46), (0, .ref (zb g + a0))]) C0 dX1_settle_243 1 rfl (by decide) e_x46.symm (by decide) rfl ?_
      refine z_goto C0 230 dX1_settle_246 (by decide) ?_
      refine z_sub (lo1 := [(0, .ref (zb g + a0)), (1, .int x46)]) [1, 0] rfl ?_
      exact ih _ _ _ h kx
set_option maxHeartbeats 4000000 in
set_option maxRecDepth 100000 in
theorem r_X1_settle_L251 {l : Launch} {g : zL} {N : Nat} {σ : Nat → Nat → Bool} {p : Program} {e : Env} {s : State} {m : MethodId} {args : Array Value} {below : List Frame} {meth : Method} {c : Code} {Q : State → Prop} (C0 : zC p s m args meth c g cX1_settle yX1_settle 3 none) (a0 : Nat) (hU48 : zT N σ a0 1) : ∀ (n : Nat) (y49 : Int32) (μ50 : zM) (μ61 : zM), f_X1_settle_L251 a0 n y49 μ50 = some μ61 → Z p l e (zrm 1 0 0) s m args below meth c g Q 3 N 0 0 σ μ61 308 [] [] → Z p l e (zrm 1 0 0) s m args below meth c g Q 3 N 0 0 σ μ50 251 [(0, .ref (zb g + a0)), (1, .int y49)] [] := by
  intro n
  induction n with
  | zero =>
    intro y49 μ50 μ61 h kx
    rw [f_X1_settle_L251] at h
    cases h
  | succ n ih =>
    intro y49 μ50 μ61 h kx
    rw [f_X1_settle_L251] at h
    refine z_iload_n C0 dX1_settle_251 rfl 1 rfl ?_
    refine z_aload_n C0 dX1_settle_252 rfl 0 rfl ?_
    refine z_getr C0 hU48 kf_1_20 zr_1_1 zx_1 (zs_1_1 hU48).1 dX1_settle_253 ?_
    refine z_geti C0 (zs_1_1 hU48).2.1 (zs_1_1 hU48).2.2.2.1 kf_1_60 zr_6_2 dX1_settle_256 ?_
    refine z_icmp_ge C0 308 dX1_settle_259 (by decide) (fun c51 => ?_) (fun c51 => ?_)
    · have h := zif_t c51 h
      refine z_sub (lo1 := []) [] rfl ?_
      obtain rfl := (Option.some.inj h)
      exact kx
    · have h := zif_f c51 h
      refine z_aload_n C0 dX1_settle_262 rfl 0 rfl ?_
      refine z_getr C0 hU48 kf_1_20 zr_1_1 zx_1 (zs_1_1 hU48).1 dX1_settle_263 ?_
      refine z_iload_n C0 dX1_settle_266 rfl 1 rfl ?_
      refine z_iconst (v := (1 : Int32)) C0 dX1_settle_267 (by decide) ?_
      obtain ⟨r52, e_r52, h⟩ := zbd_of h
      refine z_callV (As := [.int y49, .int (1 : Int32)]) (rest := []) C0 rfl kc_X6_number km_RX1_80 (r_X6_number (l := l) (g := g) (a0 + 2) y49 (1 : Int32) μ50 (zs_1_1 hU48).2 e_r52) (zs_1_1 hU48).2.1 (zs_1_1 hU48).2.2.2.1 rfl (by decide) rfl (Nat.le_of_ble_eq_true rfl) (Nat.le_of_ble_eq_true rfl) (Nat.le_of_ble_eq_true rfl) (Nat.le_of_ble_eq_true rfl) (Nat.le_refl _) rfl rfl dX1_settle_268 ?_
      refine z_istore_n (lo1 := [(2, .int r52), (0, .ref (zb g + a0)), (1, .int y49)]) C0 dX1_settle_271 rfl (by decide) rfl ?_
      refine z_iload_n C0 dX1_settle_272 rfl 0 rfl ?_
      obtain ⟨μ59, e_μ59, h⟩ := zbd_of h
      refine z_join μ59 302 [(0, .ref (zb g + a0)), (1, .int y49)] [] ?_ (fun k_J55 => ?_)
      · obtain ⟨x60, e_x60, h⟩ := zl_of h
        refine z_iinc (lo1 := [(1, .int x60), (0, .ref (zb g + a0))]) C0 dX1_settle_302 1 rfl (by decide) e_x60.symm (by decide) rfl ?_
        refine z_goto C0 251 dX1_settle_305 (by decide) ?_
        refine z_sub (lo1 := [(0, .ref (zb g + a0)), (1, .int x60)]) [1, 0] rfl ?_
        exact ih _ _ _ h kx
      · have h := e_μ59
        by_cases hc62 : (¬ (r52 < 0)) ∧ (¬ ((12 : Int32) ≤ r52))
        · have h := zif_t hc62 h
          refine z_join μ50 282 [(2, .int r52), (0, .ref (zb g + a0)), (1, .int y49)] [] ?_ (fun k63 => ?_)
          · refine z_aload_n C0 dX1_settle_282 rfl 1 rfl ?_
            refine z_getr C0 hU48 kf_1_42 zr_1_11 zx_1 (zs_1_11 hU48).1 dX1_settle_283 ?_
            refine z_iload_n C0 dX1_settle_286 rfl 0 rfl ?_
            refine z_dup2 C0 dX1_settle_287 rfl rfl ?_
            obtain ⟨g56, h⟩ := zg_of h
            refine z_iald C0 (zs_1_11 hU48).2 g56 rfl dX1_settle_288 ?_
            refine z_iconst (v := (1 : Int32)) C0 dX1_settle_289 (by decide) ?_
            refine z_aload_n C0 dX1_settle_290 rfl 1 rfl ?_
            refine z_getr C0 hU48 kf_1_20 zr_1_1 zx_1 (zs_1_1 hU48).1 dX1_settle_291 ?_
            refine z_iload_n C0 dX1_settle_294 rfl 2 rfl ?_
            refine z_iconst (v := (0 : Int32)) C0 dX1_settle_295 (by decide) ?_
            obtain ⟨r57, e_r57, h⟩ := zbd_of h
            refine z_callV (As := [.int y49, .int (0 : Int32)]) (rest := [.int (1 : Int32), .int (μ50 (a0 + 14) (r52.toNatClampNeg)), .int r52, .ref (zb g + (a0 + 14))]) C0 rfl kc_X6_number km_RX1_80 (r_X6_number (l := l) (g := g) (a0 + 2) y49 (0 : Int32) μ50 (zs_1_1 hU48).2 e_r57) (zs_1_1 hU48).2.1 (zs_1_1 hU48).2.2.2.1 rfl (by decide) rfl (Nat.le_of_ble_eq_true rfl) (Nat.le_of_ble_eq_true rfl) (Nat.le_of_ble_eq_true rfl) (Nat.le_of_ble_eq_true rfl) (Nat.le_refl _) rfl rfl dX1_settle_296 ?_
            refine z_ishl C0 dX1_settle_299 ?_
            refine z_ior C0 dX1_settle_300 ?_
            obtain ⟨μ58, e_μ58, h⟩ := zl_of h
            refine z_iast C0 (zs_1_11 hU48).2 g56 rfl e_μ58 dX1_settle_301 ?_
            refine z_sub (lo1 := [(0, .ref (zb g + a0)), (1, .int y49)]) [1, 2] rfl ?_
            obtain rfl := (Option.some.inj h)
            exact k_J55
          · refine z_if_lt C0 302 dX1_settle_273 (by decide) (fun c53 => ?_) (fun c53 => ?_)
            · exact absurd hc62 (fun q => q.1 c53)
            · refine z_iload_n C0 dX1_settle_276 rfl 0 rfl ?_
              refine z_bipush (v := (12 : Int32)) C0 dX1_settle_277 (by decide) ?_
              refine z_icmp_ge C0 302 dX1_settle_279 (by decide) (fun c54 => ?_) (fun c54 => ?_)
              · exact absurd hc62 (fun q => (fun q => q c54) q.2)
              · exact k63
        · have h := zif_f hc62 h
          refine z_join μ50 302 [(2, .int r52), (0, .ref (zb g + a0)), (1, .int y49)] [] ?_ (fun k64 => ?_)
          · refine z_sub (lo1 := [(0, .ref (zb g + a0)), (1, .int y49)]) [1, 2] rfl ?_
            obtain rfl := (Option.some.inj h)
            exact k_J55
          · refine z_if_lt C0 302 dX1_settle_273 (by decide) (fun c53 => ?_) (fun c53 => ?_)
            · exact k64
            · refine z_iload_n C0 dX1_settle_276 rfl 0 rfl ?_
              refine z_bipush (v := (12 : Int32)) C0 dX1_settle_277 (by decide) ?_
              refine z_icmp_ge C0 302 dX1_settle_279 (by decide) (fun c54 => ?_) (fun c54 => ?_)
              · exact k64
              · exact absurd ⟨c53, c54⟩ hc62
set_option maxHeartbeats 4000000 in
set_option maxRecDepth 100000 in
theorem r_X1_settle {l : Launch} {g : zL} {N : Nat} {σ : Nat → Nat → Bool} (a0 : Nat) (μ : zM) (hT0 : zT N σ a0 1) {μr : zM} (h : f_X1_settle a0 μ = some μr) : zMet l g yX1_settle cX1_settle 3 none 1 0 0 N N σ σ [.ref (zb g + a0)] μ none μr := by
  refine zMet.of (by decide +kernel) (Nat.le_of_ble_eq_true rfl) ?_
  intro p e s m args below meth c C0
  refine z_loc (lo1 := [(0, .ref (zb g + a0))]) rfl ?_
  unfold f_X1_settle at h
  refine z_aload_n C0 dX1_settle_0 rfl 0 rfl ?_
  refine z_iconst (v := (1 : Int32)) C0 dX1_settle_1 (by decide) ?_
  refine z_aload_n C0 dX1_settle_2 rfl 0 rfl ?_
  refine z_getr C0 hT0 kf_1_11 zr_1_0 zx_1 (zs_1_0 hT0).1 dX1_settle_3 ?_
  refine z_iconst (v := (2 : Int32)) C0 dX1_settle_6 (by decide) ?_
  refine z_iald (j := 2) C0 (zs_1_0 hT0).2 (by decide : zin (2 : Int32) 11 = true) (by decide) dX1_settle_7 ?_
  refine z_mmax C0 rfl kM_RX1_68 kM_max (Nat.le_of_ble_eq_true rfl) (Nat.zero_le _) (Nat.zero_le _) dX1_settle_8 ?_
  obtain ⟨μ1, e_μ1, h⟩ := zl_of h
  refine z_puti C0 hT0.1 hT0.2.2.1 kf_1_74 zp_1_6 zr_1_6 e_μ1 dX1_settle_11 ?_
  refine z_aload_n C0 dX1_settle_14 rfl 0 rfl ?_
  refine z_iconst (v := (1 : Int32)) C0 dX1_settle_15 (by decide) ?_
  refine z_aload_n C0 dX1_settle_16 rfl 0 rfl ?_
  refine z_getr C0 hT0 kf_1_11 zr_1_0 zx_1 (zs_1_0 hT0).1 dX1_settle_17 ?_
  refine z_iconst (v := (3 : Int32)) C0 dX1_settle_20 (by decide) ?_
  refine z_iald (j := 3) C0 (zs_1_0 hT0).2 (by decide : zin (3 : Int32) 11 = true) (by decide) dX1_settle_21 ?_
  refine z_mmax C0 rfl kM_RX1_68 kM_max (Nat.le_of_ble_eq_true rfl) (Nat.zero_le _) (Nat.zero_le _) dX1_settle_22 ?_
  obtain ⟨μ2, e_μ2, h⟩ := zl_of h
  refine z_puti C0 hT0.1 hT0.2.2.1 kf_1_77 zp_1_7 zr_1_7 e_μ2 dX1_settle_25 ?_
  refine z_iconst (v := (0 : Int32)) C0 dX1_settle_28 (by decide) ?_
  refine z_istore_n (lo1 := [(1, .int (0 : Int32)), (0, .ref (zb g + a0))]) C0 dX1_settle_29 rfl (by decide) rfl ?_
  refine z_sub (lo1 := [(0, .ref (zb g + a0)), (1, .int (0 : Int32))]) [1, 0] rfl ?_
  obtain ⟨μ14, e_μ14, h⟩ := zbd_of h
  refine r_X1_settle_L30 C0 a0 hT0 zFU (0 : Int32) μ2 μ14 e_μ14 ?_
  refine z_aload_n C0 dX1_settle_87 rfl 0 rfl ?_
  refine z_getr C0 hT0 kf_1_39 zr_1_10 zx_1 (zs_1_10 hT0).1 dX1_settle_88 ?_
  refine z_iconst (v := (0 : Int32)) C0 dX1_settle_91 (by decide) ?_
  refine z_iconst (v := (0 : Int32)) C0 dX1_settle_92 (by decide) ?_
  obtain ⟨μ15, e_μ15, h⟩ := zl_of h
  refine z_iast (j := 0) C0 (zs_1_10 hT0).2 (by decide : zin (0 : Int32) 2 = true) (by decide) e_μ15 dX1_settle_93 ?_
  refine z_aload_n C0 dX1_settle_94 rfl 0 rfl ?_
  refine z_getr C0 hT0 kf_1_39 zr_1_10 zx_1 (zs_1_10 hT0).1 dX1_settle_95 ?_
  refine z_iconst (v := (1 : Int32)) C0 dX1_settle_98 (by decide) ?_
  refine z_iconst (v := (0 : Int32)) C0 dX1_settle_99 (by decide) ?_
  obtain ⟨μ16, e_μ16, h⟩ := zl_of h
  refine z_iast (j := 1) C0 (zs_1_10 hT0).2 (by decide : zin (1 : Int32) 2 = true) (by decide) e_μ16 dX1_settle_100 ?_
  refine z_iconst (v := (0 : Int32)) C0 dX1_settle_101 (by decide) ?_
  refine z_istore_n (lo1 := [(1, .int (0 : Int32)), (0, .ref (zb g + a0))]) C0 dX1_settle_102 rfl (by decide) rfl ?_
  refine z_sub (lo1 := [(0, .ref (zb g + a0)), (1, .int (0 : Int32))]) [1, 0] rfl ?_
  obtain ⟨μ30, e_μ30, h⟩ := zbd_of h
  refine r_X1_settle_L103 C0 a0 hT0 zFU (0 : Int32) μ16 μ30 e_μ30 ?_
  refine z_aload_n C0 dX1_settle_186 rfl 0 rfl ?_
  refine z_iconst (v := (0 : Int32)) C0 dX1_settle_187 (by decide) ?_
  obtain ⟨μ31, e_μ31, h⟩ := zl_of h
  refine z_puti C0 hT0.1 hT0.2.2.1 kf_1_86 zp_1_8 zr_1_8 e_μ31 dX1_settle_188 ?_
  refine z_iconst (v := (0 : Int32)) C0 dX1_settle_191 (by decide) ?_
  refine z_istore_n (lo1 := [(1, .int (0 : Int32)), (0, .ref (zb g + a0))]) C0 dX1_settle_192 rfl (by decide) rfl ?_
  refine z_sub (lo1 := [(0, .ref (zb g + a0)), (1, .int (0 : Int32))]) [1, 0] rfl ?_
  obtain ⟨μ39, e_μ39, h⟩ := zbd_of h
  refine r_X1_settle_L193 C0 a0 hT0 zFU (0 : Int32) μ31 μ39 e_μ39 ?_
  refine z_iconst (v := (0 : Int32)) C0 dX1_settle_228 (by decide) ?_
  refine z_istore_n (lo1 := [(1, .int (0 : Int32)), (0, .ref (zb g + a0))]) C0 dX1_settle_229 rfl (by decide) rfl ?_
  refine z_sub (lo1 := [(0, .ref (zb g + a0)), (1, .int (0 : Int32))]) [1, 0] rfl ?_
  obtain ⟨μ47, e_μ47, h⟩ := zbd_of h
  refine r_X1_settle_L230 C0 a0 hT0 zFU (0 : Int32) μ39 μ47 e_μ47 ?_
  refine z_iconst (v := (0 : Int32)) C0 dX1_settle_249 (by decide) ?_
  refine z_istore_n (lo1 := [(1, .int (0 : Int32)), (0, .ref (zb g + a0))]) C0 dX1_settle_250 rfl (by decide) rfl ?_
  refine z_sub (lo1 := [(0, .ref (zb g + a0)), (1, .int (0 : Int32))]) [1, 0] rfl ?_
  obtain ⟨μ61, e_μ61, h⟩ := zbd_of h
  refine r_X1_settle_L251 C0 a0 hT0 zFU (0 : Int32) μ47 μ61 e_μ61 ?_
  have h := Option.some.inj h
  obtain rfl := h
  exact z_vret C0 rfl dX1_settle_308
def f_X1_takeFrom (a0 : Nat) (a1 : Nat) (μ : zM) : Option (zM) :=
  zg (zcpg (0 : Int32) (0 : Int32) (11 : Int32) 11 11) <|
  zl (zcp μ (a1 + 1) (a0 + 1) (0 : Int32) (0 : Int32) (11 : Int32)) fun μ2 =>
  zbd (f_X6_takeFrom (a0 + 2) (a1 + 2) μ2) fun μ3 =>
  zbd (f_X6_takeFrom (a0 + 4) (a1 + 4) μ3) fun μ4 =>
  zbd (f_X6_takeFrom (a0 + 6) (a1 + 6) μ4) fun μ5 =>
  zbd (f_X6_takeFrom (a0 + 8) (a1 + 8) μ5) fun μ6 =>
  zbd (f_X6_takeFrom (a0 + 10) (a1 + 10) μ6) fun μ7 =>
  zbd (f_X1_settle a0 μ7) fun μ8 =>
  some μ8
set_option maxHeartbeats 4000000 in
set_option maxRecDepth 100000 in
theorem r_X1_takeFrom {l : Launch} {g : zL} (a0 : Nat) (a1 : Nat) (μ : zM) (hT0 : zT zNN zσ1 a0 1) (hT1 : zT zNN zσ1 a1 1) {μr : zM} (h : f_X1_takeFrom a0 a1 μ = some μr) : zMet l g yX1_takeFrom cX1_takeFrom 2 none 2 0 0 zNN zNN zσ1 zσ1 [.ref (zb g + a0), .ref (zb g + a1)] μ none μr := by
  refine zMet.of (by decide +kernel) (Nat.le_of_ble_eq_true rfl) ?_
  intro p e s m args below meth c C0
  refine z_loc (lo1 := [(0, .ref (zb g + a0)), (1, .ref (zb g + a1))]) rfl ?_
  unfold f_X1_takeFrom at h
  refine z_aload_n C0 dX1_takeFrom_0 rfl 1 rfl ?_
  refine z_getr C0 hT1 kf_1_11 zr_1_0 zx_1 (zs_1_0 hT1).1 dX1_takeFrom_1 ?_
  refine z_iconst (v := (0 : Int32)) C0 dX1_takeFrom_4 (by decide) ?_
  refine z_aload_n C0 dX1_takeFrom_5 rfl 0 rfl ?_
  refine z_getr C0 hT0 kf_1_11 zr_1_0 zx_1 (zs_1_0 hT0).1 dX1_takeFrom_6 ?_
  refine z_iconst (v := (0 : Int32)) C0 dX1_takeFrom_9 (by decide) ?_
  refine z_bipush (v := (11 : Int32)) C0 dX1_takeFrom_10 (by decide) ?_
  obtain ⟨g1, h⟩ := zg_of h
  obtain ⟨μ2, e_μ2, h⟩ := zl_of h
  refine z_copyi C0 rfl km_RX1_54 kA (zs_1_0 hT1).2 (zs_1_0 hT0).2 g1 (Nat.le_of_ble_eq_true rfl) e_μ2 dX1_takeFrom_12 ?_
  refine z_aload_n C0 dX1_takeFrom_15 rfl 0 rfl ?_
  refine z_getr C0 hT0 kf_1_20 zr_1_1 zx_1 (zs_1_1 hT0).1 dX1_takeFrom_16 ?_
  refine z_aload_n C0 dX1_takeFrom_19 rfl 1 rfl ?_
  refine z_getr C0 hT1 kf_1_20 zr_1_1 zx_1 (zs_1_1 hT1).1 dX1_takeFrom_20 ?_
  obtain ⟨μ3, e_μ3, h⟩ := zbd_of h
  refine z_callV (As := [.ref (zb g + (a1 + 2))]) (rest := []) C0 rfl kc_X6_takeFrom km_RX1_64 (r_X6_takeFrom (l := l) (g := g) (a0 + 2) (a1 + 2) μ2 (zs_1_1 hT0).2 (zs_1_1 hT1).2 e_μ3) (zs_1_1 hT0).2.1 (zs_1_1 hT0).2.2.2.1 rfl (by decide) rfl (Nat.le_of_ble_eq_true rfl) (Nat.le_of_ble_eq_true rfl) (Nat.le_of_ble_eq_true rfl) (Nat.le_of_ble_eq_true rfl) (Nat.le_refl _) rfl rfl dX1_takeFrom_23 ?_
  refine z_aload_n C0 dX1_takeFrom_26 rfl 0 rfl ?_
  refine z_getr C0 hT0 kf_1_24 zr_1_2 zx_1 (zs_1_2 hT0).1 dX1_takeFrom_27 ?_
  refine z_aload_n C0 dX1_takeFrom_30 rfl 1 rfl ?_
  refine z_getr C0 hT1 kf_1_24 zr_1_2 zx_1 (zs_1_2 hT1).1 dX1_takeFrom_31 ?_
  obtain ⟨μ4, e_μ4, h⟩ := zbd_of h
  refine z_callV (As := [.ref (zb g + (a1 + 4))]) (rest := []) C0 rfl kc_X6_takeFrom km_RX1_64 (r_X6_takeFrom (l := l) (g := g) (a0 + 4) (a1 + 4) μ3 (zs_1_2 hT0).2 (zs_1_2 hT1).2 e_μ4) (zs_1_2 hT0).2.1 (zs_1_2 hT0).2.2.2.1 rfl (by decide) rfl (Nat.le_of_ble_eq_true rfl) (Nat.le_of_ble_eq_true rfl) (Nat.le_of_ble_eq_true rfl) (Nat.le_of_ble_eq_true rfl) (Nat.le_refl _) rfl rfl dX1_takeFrom_34 ?_
  refine z_aload_n C0 dX1_takeFrom_37 rfl 0 rfl ?_
  refine z_getr C0 hT0 kf_1_27 zr_1_3 zx_1 (zs_1_3 hT0).1 dX1_takeFrom_38 ?_
  refine z_aload_n C0 dX1_takeFrom_41 rfl 1 rfl ?_
  refine z_getr C0 hT1 kf_1_27 zr_1_3 zx_1 (zs_1_3 hT1).1 dX1_takeFrom_42 ?_
  obtain ⟨μ5, e_μ5, h⟩ := zbd_of h
  refine z_callV (As := [.ref (zb g + (a1 + 6))]) (rest := []) C0 rfl kc_X6_takeFrom km_RX1_64 (r_X6_takeFrom (l := l) (g := g) (a0 + 6) (a1 + 6) μ4 (zs_1_3 hT0).2 (zs_1_3 hT1).2 e_μ5) (zs_1_3 hT0).2.1 (zs_1_3 hT0).2.2.2.1 rfl (by decide) rfl (Nat.le_of_ble_eq_true rfl) (Nat.le_of_ble_eq_true rfl) (Nat.le_of_ble_eq_true rfl) (Nat.le_of_ble_eq_true rfl) (Nat.le_refl _) rfl rfl dX1_takeFrom_45 ?_
  refine z_aload_n C0 dX1_takeFrom_48 rfl 0 rfl ?_
  refine z_getr C0 hT0 kf_1_30 zr_1_4 zx_1 (zs_1_4 hT0).1 dX1_takeFrom_49 ?_
  refine z_aload_n C0 dX1_takeFrom_52 rfl 1 rfl ?_
  refine z_getr C0 hT1 kf_1_30 zr_1_4 zx_1 (zs_1_4 hT1).1 dX1_takeFrom_53 ?_
  obtain ⟨μ6, e_μ6, h⟩ := zbd_of h
  refine z_callV (As := [.ref (zb g + (a1 + 8))]) (rest := []) C0 rfl kc_X6_takeFrom km_RX1_64 (r_X6_takeFrom (l := l) (g := g) (a0 + 8) (a1 + 8) μ5 (zs_1_4 hT0).2 (zs_1_4 hT1).2 e_μ6) (zs_1_4 hT0).2.1 (zs_1_4 hT0).2.2.2.1 rfl (by decide) rfl (Nat.le_of_ble_eq_true rfl) (Nat.le_of_ble_eq_true rfl) (Nat.le_of_ble_eq_true rfl) (Nat.le_of_ble_eq_true rfl) (Nat.le_refl _) rfl rfl dX1_takeFrom_56 ?_
  refine z_aload_n C0 dX1_takeFrom_59 rfl 0 rfl ?_
  refine z_getr C0 hT0 kf_1_33 zr_1_5 zx_1 (zs_1_5 hT0).1 dX1_takeFrom_60 ?_
  refine z_aload_n C0 dX1_takeFrom_63 rfl 1 rfl ?_
  refine z_getr C0 hT1 kf_1_33 zr_1_5 zx_1 (zs_1_5 hT1).1 dX1_takeFrom_64 ?_
  obtain ⟨μ7, e_μ7, h⟩ := zbd_of h
  refine z_callV (As := [.ref (zb g + (a1 + 10))]) (rest := []) C0 rfl kc_X6_takeFrom km_RX1_64 (r_X6_takeFrom (l := l) (g := g) (a0 + 10) (a1 + 10) μ6 (zs_1_5 hT0).2 (zs_1_5 hT1).2 e_μ7) (zs_1_5 hT0).2.1 (zs_1_5 hT0).2.2.2.1 rfl (by decide) rfl (Nat.le_of_ble_eq_true rfl) (Nat.le_of_ble_eq_true rfl) (Nat.le_of_ble_eq_true rfl) (Nat.le_of_ble_eq_true rfl) (Nat.le_refl _) rfl rfl dX1_takeFrom_67 ?_
  refine z_aload_n C0 dX1_takeFrom_70 rfl 0 rfl ?_
  obtain ⟨μ8, e_μ8, h⟩ := zbd_of h
  refine z_callV (As := []) (rest := []) C0 rfl kc_X1_settle km_RX1_48 (r_X1_settle (l := l) (g := g) a0 μ7 hT0 e_μ8) hT0.1 hT0.2.2.1 rfl (by decide) rfl (Nat.le_of_ble_eq_true rfl) (Nat.le_of_ble_eq_true rfl) (Nat.le_of_ble_eq_true rfl) (Nat.le_of_ble_eq_true rfl) (Nat.le_refl _) rfl rfl dX1_takeFrom_71 ?_
  have h := Option.some.inj h
  obtain rfl := h
  exact z_vret C0 rfl dX1_takeFrom_74
def f_X6_has (a0 : Nat) (v1 : Int32) (μ : zM) : Int32 :=
  zl (if (¬ (v1 < 0)) ∧ (¬ ((μ a0 2) ≤ v1)) then
      (1 : Int32)
    else
      (0 : Int32)) fun x4 =>
  x4
set_option maxHeartbeats 4000000 in
set_option maxRecDepth 100000 in
theorem r_X6_has {l : Launch} {g : zL} {N : Nat} {σ : Nat → Nat → Bool} (a0 : Nat) (v1 : Int32) (μ : zM) (hT0 : zT N σ a0 6) {rv : Int32} (h : f_X6_has a0 v1 μ = rv) : zMet l g yX6_has cX6_has 2 (some (.boolean)) 0 0 0 N N σ σ [.ref (zb g + a0), .int v1] μ (some (.int rv)) μ := by
  refine zMet.of (by decide +kernel) (Nat.le_of_ble_eq_true rfl) ?_
  intro p e s m args below meth c C0
  refine z_loc (lo1 := [(0, .ref (zb g + a0)), (1, .int v1)]) rfl ?_
  unfold f_X6_has at h
  refine z_iload_n C0 dX6_has_0 rfl 1 rfl ?_
  obtain ⟨x4, e_x4, h⟩ := zl_of h
  refine z_join μ 17 [] [.int x4] ?_ (fun k_J3 => ?_)
  · skip
    obtain rfl := h
    exact z_zret C0 rfl (by rw [e_x4]; repeat' split <;> rfl) dX6_has_17
  · have h := e_x4.symm
    by_cases hc5 : (¬ (v1 < 0)) ∧ (¬ ((μ a0 2) ≤ v1))
    · have h := zif_t hc5 h
      refine z_join μ 12 [(0, .ref (zb g + a0)), (1, .int v1)] [] ?_ (fun k6 => ?_)
      · refine z_iconst (v := (1 : Int32)) C0 dX6_has_12 (by decide) ?_
        refine z_goto C0 17 dX6_has_13 (by decide) ?_
        refine z_sub (lo1 := []) [] rfl ?_
        obtain rfl := h
        exact k_J3
      · refine z_if_lt C0 16 dX6_has_1 (by decide) (fun c1 => ?_) (fun c1 => ?_)
        · exact absurd hc5 (fun q => q.1 c1)
        · refine z_iload_n C0 dX6_has_4 rfl 1 rfl ?_
          refine z_aload_n C0 dX6_has_5 rfl 0 rfl ?_
          refine z_geti C0 hT0.1 hT0.2.2.1 kf_6_25 zr_6_2 dX6_has_6 ?_
          refine z_icmp_ge C0 16 dX6_has_9 (by decide) (fun c2 => ?_) (fun c2 => ?_)
          · exact absurd hc5 (fun q => (fun q => q c2) q.2)
          · exact k6
    · have h := zif_f hc5 h
      refine z_join μ 16 [(0, .ref (zb g + a0)), (1, .int v1)] [] ?_ (fun k7 => ?_)
      · refine z_iconst (v := (0 : Int32)) C0 dX6_has_16 (by decide) ?_
        refine z_sub (lo1 := []) [] rfl ?_
        obtain rfl := h
        exact k_J3
      · refine z_if_lt C0 16 dX6_has_1 (by decide) (fun c1 => ?_) (fun c1 => ?_)
        · exact k7
        · refine z_iload_n C0 dX6_has_4 rfl 1 rfl ?_
          refine z_aload_n C0 dX6_has_5 rfl 0 rfl ?_
          refine z_geti C0 hT0.1 hT0.2.2.1 kf_6_25 zr_6_2 dX6_has_6 ?_
          refine z_icmp_ge C0 16 dX6_has_9 (by decide) (fun c2 => ?_) (fun c2 => ?_)
          · exact k7
          · exact absurd ⟨c1, c2⟩ hc5
def f_X1_places (a0 : Nat) (μ : zM) : Int32 :=
  ((μ a0 6) * (μ a0 7))
set_option maxHeartbeats 4000000 in
set_option maxRecDepth 100000 in
theorem r_X1_places {l : Launch} {g : zL} (a0 : Nat) (μ : zM) (hT0 : zT zNN zσ1 a0 1) {rv : Int32} (h : f_X1_places a0 μ = rv) : zMet l g yX1_places cX1_places 1 (some (.int)) 0 0 0 zNN zNN zσ1 zσ1 [.ref (zb g + a0)] μ (some (.int rv)) μ := by
  refine zMet.of (by decide +kernel) (Nat.le_of_ble_eq_true rfl) ?_
  intro p e s m args below meth c C0
  refine z_loc (lo1 := [(0, .ref (zb g + a0))]) rfl ?_
  unfold f_X1_places at h
  refine z_aload_n C0 dX1_places_0 rfl 0 rfl ?_
  refine z_geti C0 hT0.1 hT0.2.2.1 kf_1_74 zr_1_6 dX1_places_1 ?_
  refine z_aload_n C0 dX1_places_4 rfl 0 rfl ?_
  refine z_geti C0 hT0.1 hT0.2.2.1 kf_1_77 zr_1_7 dX1_places_5 ?_
  refine z_imul C0 dX1_places_8 ?_
  skip
  obtain rfl := h
  exact z_iret C0 rfl dX1_places_9
def f_X1_lineOf (a0 : Nat) (v1 : Int32) (v2 : Int32) (μ : zM) : Option (Int32) :=
  zbd (f_X1_arm a0 v1 v2 μ) fun r1 =>
  some (((r1 + (f_X1_lines a0 v2 μ)) - (1 : Int32)) / (2 : Int32))
set_option maxHeartbeats 4000000 in
set_option maxRecDepth 100000 in
theorem r_X1_lineOf {l : Launch} {g : zL} (a0 : Nat) (v1 : Int32) (v2 : Int32) (μ : zM) (hT0 : zT zNN zσ1 a0 1) {rv : Int32} (h : f_X1_lineOf a0 v1 v2 μ = some rv) : zMet l g yX1_lineOf cX1_lineOf 3 (some (.int)) 1 0 0 zNN zNN zσ1 zσ1 [.ref (zb g + a0), .int v1, .int v2] μ (some (.int rv)) μ := by
  refine zMet.of (by decide +kernel) (Nat.le_of_ble_eq_true rfl) ?_
  intro p e s m args below meth c C0
  refine z_loc (lo1 := [(0, .ref (zb g + a0)), (1, .int v1), (2, .int v2)]) rfl ?_
  unfold f_X1_lineOf at h
  refine z_aload_n C0 dX1_lineOf_0 rfl 0 rfl ?_
  refine z_iload_n C0 dX1_lineOf_1 rfl 1 rfl ?_
  refine z_iload_n C0 dX1_lineOf_2 rfl 2 rfl ?_
  obtain ⟨r1, e_r1, h⟩ := zbd_of h
  refine z_callV (As := [.int v1, .int v2]) (rest := []) C0 rfl kc_X1_arm km_RX1_83 (r_X1_arm (l := l) (g := g) a0 v1 v2 μ hT0 e_r1) hT0.1 hT0.2.2.1 rfl (by decide) rfl (Nat.le_of_ble_eq_true rfl) (Nat.le_of_ble_eq_true rfl) (Nat.le_of_ble_eq_true rfl) (Nat.le_of_ble_eq_true rfl) (Nat.le_refl _) rfl rfl dX1_lineOf_3 ?_
  refine z_aload_n C0 dX1_lineOf_6 rfl 0 rfl ?_
  refine z_iload_n C0 dX1_lineOf_7 rfl 2 rfl ?_
  refine z_callV (As := [.int v2]) (rest := [.int r1]) C0 rfl kc_X1_lines km_RX1_93 (r_X1_lines (l := l) (g := g) a0 v2 μ hT0 rfl) hT0.1 hT0.2.2.1 rfl (by decide) rfl (Nat.le_of_ble_eq_true rfl) (Nat.le_of_ble_eq_true rfl) (Nat.le_of_ble_eq_true rfl) (Nat.le_of_ble_eq_true rfl) (Nat.le_refl _) rfl rfl dX1_lineOf_8 ?_
  refine z_iadd C0 dX1_lineOf_11 ?_
  refine z_iconst (v := (1 : Int32)) C0 dX1_lineOf_12 (by decide) ?_
  refine z_isub C0 dX1_lineOf_13 ?_
  refine z_iconst (v := (2 : Int32)) C0 dX1_lineOf_14 (by decide) ?_
  refine z_idiv C0 dX1_lineOf_15 (by decide) ?_
  have h := Option.some.inj h
  obtain rfl := h
  exact z_iret C0 rfl dX1_lineOf_16
def f_X1_wreathSizes (a0 : Nat) (μ : zM) : Int32 :=
  (μ a0 8)
set_option maxHeartbeats 4000000 in
set_option maxRecDepth 100000 in
theorem r_X1_wreathSizes {l : Launch} {g : zL} (a0 : Nat) (μ : zM) (hT0 : zT zNN zσ1 a0 1) {rv : Int32} (h : f_X1_wreathSizes a0 μ = rv) : zMet l g yX1_wreathSizes cX1_wreathSizes 1 (some (.int)) 0 0 0 zNN zNN zσ1 zσ1 [.ref (zb g + a0)] μ (some (.int rv)) μ := by
  refine zMet.of (by decide +kernel) (Nat.le_of_ble_eq_true rfl) ?_
  intro p e s m args below meth c C0
  refine z_loc (lo1 := [(0, .ref (zb g + a0))]) rfl ?_
  unfold f_X1_wreathSizes at h
  refine z_aload_n C0 dX1_wreathSizes_0 rfl 0 rfl ?_
  refine z_geti C0 hT0.1 hT0.2.2.1 kf_1_86 zr_1_8 dX1_wreathSizes_1 ?_
  skip
  obtain rfl := h
  exact z_iret C0 rfl dX1_wreathSizes_4
def f_X1_forget (a0 : Nat) (μ : zM) : Option (zM) :=
  zg (zcpg (0 : Int32) (0 : Int32) (11 : Int32) 11 11) <|
  zl (zcpF μ (a0 + 1) (0 : Int32) (0 : Int32) (11 : Int32)) fun μ2 =>
  zl (zup μ2 (a0 + 2) 2 (0 : Int32)) fun μ3 =>
  zl (zup μ3 (a0 + 4) 2 (0 : Int32)) fun μ4 =>
  zl (zup μ4 (a0 + 6) 2 (0 : Int32)) fun μ5 =>
  zl (zup μ5 (a0 + 8) 2 (0 : Int32)) fun μ6 =>
  zl (zup μ6 (a0 + 10) 2 (0 : Int32)) fun μ7 =>
  some μ7
set_option maxHeartbeats 4000000 in
set_option maxRecDepth 100000 in
theorem r_X1_forget {l : Launch} {g : zL} {N : Nat} {σ : Nat → Nat → Bool} {κ : zK} (a0 : Nat) (μ : zM) (hT0 : zT N σ a0 1) (hSp : zSK g κ) {μr : zM} (h : f_X1_forget a0 μ = some μr) : zMet l g yX1_forget cX1_forget 1 none 1 0 0 N N σ σ [.ref (zb g + a0)] μ none μr := by
  refine zMet.of (by decide +kernel) (Nat.le_of_ble_eq_true rfl) ?_
  intro p e s m args below meth c C0
  have hF := hSp.at C0
  refine z_loc (lo1 := [(0, .ref (zb g + a0))]) rfl ?_
  unfold f_X1_forget at h
  refine z_gets C0 hF.1.1 kl_1_51 dX1_forget_0 ?_
  refine z_iconst (v := (0 : Int32)) C0 dX1_forget_3 (by decide) ?_
  refine z_aload_n C0 dX1_forget_4 rfl 0 rfl ?_
  refine z_getr C0 hT0 kf_1_11 zr_1_0 zx_1 (zs_1_0 hT0).1 dX1_forget_5 ?_
  refine z_iconst (v := (0 : Int32)) C0 dX1_forget_8 (by decide) ?_
  refine z_bipush (v := (11 : Int32)) C0 dX1_forget_9 (by decide) ?_
  obtain ⟨g1, h⟩ := zg_of h
  obtain ⟨μ2, e_μ2, h⟩ := zl_of h
  refine z_copyT (t0 := 0) (f := fun j => zATF.getD j 0) C0 rfl km_RX1_54 kA (zs_1_0 hT0).2 (Or.inl rfl) rfl rfl hF.1.2 g1 (fun _ _ => rfl) (Nat.le_of_ble_eq_true rfl) e_μ2 dX1_forget_11 ?_
  refine z_aload_n C0 dX1_forget_14 rfl 0 rfl ?_
  refine z_getr C0 hT0 kf_1_20 zr_1_1 zx_1 (zs_1_1 hT0).1 dX1_forget_15 ?_
  refine z_iconst (v := (0 : Int32)) C0 dX1_forget_18 (by decide) ?_
  obtain ⟨μ3, e_μ3, h⟩ := zl_of h
  refine z_puti C0 (zs_1_1 hT0).2.1 (zs_1_1 hT0).2.2.2.1 kf_1_60 zp_6_2 zr_6_2 e_μ3 dX1_forget_19 ?_
  refine z_aload_n C0 dX1_forget_22 rfl 0 rfl ?_
  refine z_getr C0 hT0 kf_1_24 zr_1_2 zx_1 (zs_1_2 hT0).1 dX1_forget_23 ?_
  refine z_iconst (v := (0 : Int32)) C0 dX1_forget_26 (by decide) ?_
  obtain ⟨μ4, e_μ4, h⟩ := zl_of h
  refine z_puti C0 (zs_1_2 hT0).2.1 (zs_1_2 hT0).2.2.2.1 kf_1_60 zp_6_2 zr_6_2 e_μ4 dX1_forget_27 ?_
  refine z_aload_n C0 dX1_forget_30 rfl 0 rfl ?_
  refine z_getr C0 hT0 kf_1_27 zr_1_3 zx_1 (zs_1_3 hT0).1 dX1_forget_31 ?_
  refine z_iconst (v := (0 : Int32)) C0 dX1_forget_34 (by decide) ?_
  obtain ⟨μ5, e_μ5, h⟩ := zl_of h
  refine z_puti C0 (zs_1_3 hT0).2.1 (zs_1_3 hT0).2.2.2.1 kf_1_60 zp_6_2 zr_6_2 e_μ5 dX1_forget_35 ?_
  refine z_aload_n C0 dX1_forget_38 rfl 0 rfl ?_
  refine z_getr C0 hT0 kf_1_30 zr_1_4 zx_1 (zs_1_4 hT0).1 dX1_forget_39 ?_
  refine z_iconst (v := (0 : Int32)) C0 dX1_forget_42 (by decide) ?_
  obtain ⟨μ6, e_μ6, h⟩ := zl_of h
  refine z_puti C0 (zs_1_4 hT0).2.1 (zs_1_4 hT0).2.2.2.1 kf_1_60 zp_6_2 zr_6_2 e_μ6 dX1_forget_43 ?_
  refine z_aload_n C0 dX1_forget_46 rfl 0 rfl ?_
  refine z_getr C0 hT0 kf_1_33 zr_1_5 zx_1 (zs_1_5 hT0).1 dX1_forget_47 ?_
  refine z_iconst (v := (0 : Int32)) C0 dX1_forget_50 (by decide) ?_
  obtain ⟨μ7, e_μ7, h⟩ := zl_of h
  refine z_puti C0 (zs_1_5 hT0).2.1 (zs_1_5 hT0).2.2.2.1 kf_1_60 zp_6_2 zr_6_2 e_μ7 dX1_forget_51 ?_
  have h := Option.some.inj h
  obtain rfl := h
  exact z_vret C0 rfl dX1_forget_54
def f_X1_rowsOf (a0 : Nat) (v1 : Int32) : Option Nat :=
  if v1 = (11 : Int32) then
    (some (a0 + 2))
  else
  if v1 = (12 : Int32) then
    (some (a0 + 4))
  else
  if v1 = (13 : Int32) then
    (some (a0 + 6))
  else
  if v1 = (14 : Int32) then
    (some (a0 + 8))
  else
  if v1 = (15 : Int32) then
    (some (a0 + 10))
  else
    none
set_option maxHeartbeats 4000000 in
set_option maxRecDepth 100000 in
theorem r_X1_rowsOf {l : Launch} {g : zL} (a0 : Nat) (v1 : Int32) {μ : zM} (hT0 : zT zNN zσ1 a0 1) {rv : Option Nat} (h : f_X1_rowsOf a0 v1 = rv) : zMet l g yX1_rowsOf cX1_rowsOf 2 (some (.object "GraveRegatta$Rows")) 0 0 0 zNN zNN zσ1 zσ1 [.ref (zb g + a0), .int v1] μ (some (zopt (zb g) rv)) μ := by
  refine zMet.of (by decide +kernel) (Nat.le_of_ble_eq_true rfl) ?_
  intro p e s m args below meth c C0
  refine z_loc (lo1 := [(0, .ref (zb g + a0)), (1, .int v1)]) rfl ?_
  unfold f_X1_rowsOf at h
  refine z_iload_n C0 dX1_rowsOf_0 rfl 1 rfl ?_
  by_cases c1 : v1 = (11 : Int32)
  · have h := zif_t c1 h
    refine z_tabK C0 (35) 36 dX1_rowsOf_1 c1 (by decide) (by decide) (by decide) (by decide) ?_
    refine z_aload_n C0 dX1_rowsOf_36 rfl 0 rfl ?_
    refine z_getr C0 hT0 kf_1_20 zr_1_1 zx_1 (zs_1_1 hT0).1 dX1_rowsOf_37 ?_
    skip
    obtain rfl := h
    exact z_aret (v := zopt (zb g) (some (a0 + 2))) C0 rfl (zopt_or _ _) dX1_rowsOf_40
  · have h := zif_f c1 h
    by_cases c2 : v1 = (12 : Int32)
    · have h := zif_t c2 h
      refine z_tabK C0 (40) 41 dX1_rowsOf_1 c2 (by decide) (by decide) (by decide) (by decide) ?_
      refine z_aload_n C0 dX1_rowsOf_41 rfl 0 rfl ?_
      refine z_getr C0 hT0 kf_1_24 zr_1_2 zx_1 (zs_1_2 hT0).1 dX1_rowsOf_42 ?_
      skip
      obtain rfl := h
      exact z_aret (v := zopt (zb g) (some (a0 + 4))) C0 rfl (zopt_or _ _) dX1_rowsOf_45
    · have h := zif_f c2 h
      by_cases c3 : v1 = (13 : Int32)
      · have h := zif_t c3 h
        refine z_tabK C0 (45) 46 dX1_rowsOf_1 c3 (by decide) (by decide) (by decide) (by decide) ?_
        refine z_aload_n C0 dX1_rowsOf_46 rfl 0 rfl ?_
        refine z_getr C0 hT0 kf_1_27 zr_1_3 zx_1 (zs_1_3 hT0).1 dX1_rowsOf_47 ?_
        skip
        obtain rfl := h
        exact z_aret (v := zopt (zb g) (some (a0 + 6))) C0 rfl (zopt_or _ _) dX1_rowsOf_50
      · have h := zif_f c3 h
        by_cases c4 : v1 = (14 : Int32)
        · have h := zif_t c4 h
          refine z_tabK C0 (50) 51 dX1_rowsOf_1 c4 (by decide) (by decide) (by decide) (by decide) ?_
          refine z_aload_n C0 dX1_rowsOf_51 rfl 0 rfl ?_
          refine z_getr C0 hT0 kf_1_30 zr_1_4 zx_1 (zs_1_4 hT0).1 dX1_rowsOf_52 ?_
          skip
          obtain rfl := h
          exact z_aret (v := zopt (zb g) (some (a0 + 8))) C0 rfl (zopt_or _ _) dX1_rowsOf_55
        · have h := zif_f c4 h
          by_cases c5 : v1 = (15 : Int32)
          · have h := zif_t c5 h
            refine z_tabK C0 (55) 56 dX1_rowsOf_1 c5 (by decide) (by decide) (by decide) (by decide) ?_
            refine z_aload_n C0 dX1_rowsOf_56 rfl 0 rfl ?_
            refine z_getr C0 hT0 kf_1_33 zr_1_5 zx_1 (zs_1_5 hT0).1 dX1_rowsOf_57 ?_
            skip
            obtain rfl := h
            exact z_aret (v := zopt (zb g) (some (a0 + 10))) C0 rfl (zopt_or _ _) dX1_rowsOf_60
          · have h := zif_f c5 h
            refine z_join μ 61 [(0, .ref (zb g + a0)), (1, .int v1)] [] ?_ (fun k6 => ?_)
            · refine z_anull C0 dX1_rowsOf_61 ?_
              skip
              obtain rfl := h
              exact z_aret (v := zopt (zb g) none) C0 rfl (zopt_or _ _) dX1_rowsOf_62
            · have c1 : v1.toInt ≠ 11 := fun q => c1 (Int32.toInt_inj.mp (q.trans (by decide)))
              have c2 : v1.toInt ≠ 12 := fun q => c2 (Int32.toInt_inj.mp (q.trans (by decide)))
              have c3 : v1.toInt ≠ 13 := fun q => c3 (Int32.toInt_inj.mp (q.trans (by decide)))
              have c4 : v1.toInt ≠ 14 := fun q => c4 (Int32.toInt_inj.mp (q.trans (by decide)))
              have c5 : v1.toInt ≠ 15 := fun q => c5 (Int32.toInt_inj.mp (q.trans (by decide)))
              exact z_tabOut C0 61 dX1_rowsOf_1 (by omega) (by decide) k6
def f_X1_answer (a0 : Nat) (v1 : Int32) (μ : zM) : Option (Int32) :=
  if 0 ≤ v1 then
    if (11 : Int32) ≤ v1 then
      if (20 : Int32) ≤ v1 then
        if (60 : Int32) ≤ v1 then
          if (100 : Int32) ≤ v1 then
            if (110 : Int32) ≤ v1 then
              if (140 : Int32) ≤ v1 then
                zbd (if (160 : Int32) ≤ v1 then
                    some (-1 : Int32)
                  else
                    zbd (f_X6_number (a0 + 10) (v1 % (10 : Int32)) ((v1 - (140 : Int32)) / (10 : Int32)) μ) fun r47 =>
                    some r47) fun x48 =>
                some x48
              else
                zbd (f_X6_number (a0 + 8) (v1 % (10 : Int32)) ((v1 - (110 : Int32)) / (10 : Int32)) μ) fun r49 =>
                some r49
            else
              zbd (f_X6_number (a0 + 6) (v1 - (100 : Int32)) (0 : Int32) μ) fun r50 =>
              some r50
          else
            zbd (if (80 : Int32) ≤ v1 then
                zbd (f_X6_number (a0 + 4) (v1 - (80 : Int32)) (1 : Int32) μ) fun r53 =>
                some r53
              else
                zbd (f_X6_number (a0 + 4) (v1 - (60 : Int32)) (0 : Int32) μ) fun r54 =>
                some r54) fun x55 =>
            some x55
        else
          zbd (if (40 : Int32) ≤ v1 then
              zbd (f_X6_number (a0 + 2) (v1 - (40 : Int32)) (1 : Int32) μ) fun r58 =>
              some r58
            else
              zbd (f_X6_number (a0 + 2) (v1 - (20 : Int32)) (0 : Int32) μ) fun r59 =>
              some r59) fun x60 =>
          some x60
      else
        zl (f_X1_rowsOf a0 v1) fun r61 =>
        zbd (zcase r61 (some (-1 : Int32)) fun w63 => zg (zgn w63 6) <|
            some (μ w63 2)) fun x65 =>
        some x65
    else
      zg (zin v1 11) <|
      some (μ (a0 + 1) (v1.toNatClampNeg))
  else
    some (-1 : Int32)
set_option maxHeartbeats 4000000 in
set_option maxRecDepth 100000 in
theorem r_X1_answer {l : Launch} {g : zL} (a0 : Nat) (v1 : Int32) (μ : zM) (hT0 : zT zNN zσ1 a0 1) {rv : Int32} (h : f_X1_answer a0 v1 μ = some rv) : zMet l g yX1_answer cX1_answer 3 (some (.int)) 1 0 0 zNN zNN zσ1 zσ1 [.ref (zb g + a0), .int v1] μ (some (.int rv)) μ := by
  refine zMet.of (by decide +kernel) (Nat.le_of_ble_eq_true rfl) ?_
  intro p e s m args below meth c C0
  refine z_loc (lo1 := [(0, .ref (zb g + a0)), (1, .int v1)]) rfl ?_
  unfold f_X1_answer at h
  refine z_iload_n C0 dX1_answer_0 rfl 1 rfl ?_
  refine z_if_ge C0 6 dX1_answer_1 (by decide) (fun c1 => ?_) (fun c1 => ?_)
  · have h := zif_t c1 h
    refine z_iload_n C0 dX1_answer_6 rfl 1 rfl ?_
    refine z_bipush (v := (11 : Int32)) C0 dX1_answer_7 (by decide) ?_
    refine z_icmp_ge C0 19 dX1_answer_9 (by decide) (fun c11 => ?_) (fun c11 => ?_)
    · have h := zif_t c11 h
      refine z_iload_n C0 dX1_answer_19 rfl 1 rfl ?_
      refine z_bipush (v := (20 : Int32)) C0 dX1_answer_20 (by decide) ?_
      refine z_icmp_ge C0 44 dX1_answer_22 (by decide) (fun c20 => ?_) (fun c20 => ?_)
      · have h := zif_t c20 h
        refine z_iload_n C0 dX1_answer_44 rfl 1 rfl ?_
        refine z_bipush (v := (60 : Int32)) C0 dX1_answer_45 (by decide) ?_
        refine z_icmp_ge C0 84 dX1_answer_47 (by decide) (fun c28 => ?_) (fun c28 => ?_)
        · have h := zif_t c28 h
          refine z_iload_n C0 dX1_answer_84 rfl 1 rfl ?_
          refine z_bipush (v := (100 : Int32)) C0 dX1_answer_85 (by decide) ?_
          refine z_icmp_ge C0 124 dX1_answer_87 (by decide) (fun c35 => ?_) (fun c35 => ?_)
          · have h := zif_t c35 h
            refine z_iload_n C0 dX1_answer_124 rfl 1 rfl ?_
            refine z_bipush (v := (110 : Int32)) C0 dX1_answer_125 (by decide) ?_
            refine z_icmp_ge C0 143 dX1_answer_127 (by decide) (fun c40 => ?_) (fun c40 => ?_)
            · have h := zif_t c40 h
              refine z_iload_n C0 dX1_answer_143 rfl 1 rfl ?_
              refine z_sipush (v := (140 : Int32)) C0 dX1_answer_144 (by decide) ?_
              refine z_icmp_ge C0 169 dX1_answer_147 (by decide) (fun c43 => ?_) (fun c43 => ?_)
              · have h := zif_t c43 h
                refine z_iload_n C0 dX1_answer_169 rfl 1 rfl ?_
                refine z_sipush (v := (160 : Int32)) C0 dX1_answer_170 (by decide) ?_
                obtain ⟨x48, e_x48, h⟩ := zbd_of h
                refine z_join μ 199 [] [.int x48] ?_ (fun k_J46 => ?_)
                · have h := Option.some.inj h
                  obtain rfl := h
                  exact z_iret C0 rfl dX1_answer_199
                · have h := e_x48
                  refine z_icmp_ge C0 198 dX1_answer_173 (by decide) (fun c45 => ?_) (fun c45 => ?_)
                  · have h := zif_t c45 h
                    refine z_iconst (v := (-1 : Int32)) C0 dX1_answer_198 (by decide) ?_
                    refine z_sub (lo1 := []) [] rfl ?_
                    obtain rfl := (Option.some.inj h)
                    exact k_J46
                  · have h := zif_f c45 h
                    refine z_aload_n C0 dX1_answer_176 rfl 0 rfl ?_
                    refine z_getr C0 hT0 kf_1_33 zr_1_5 zx_1 (zs_1_5 hT0).1 dX1_answer_177 ?_
                    refine z_iload_n C0 dX1_answer_180 rfl 1 rfl ?_
                    refine z_bipush (v := (10 : Int32)) C0 dX1_answer_181 (by decide) ?_
                    refine z_irem C0 dX1_answer_183 (by decide) ?_
                    refine z_iload_n C0 dX1_answer_184 rfl 1 rfl ?_
                    refine z_sipush (v := (140 : Int32)) C0 dX1_answer_185 (by decide) ?_
                    refine z_isub C0 dX1_answer_188 ?_
                    refine z_bipush (v := (10 : Int32)) C0 dX1_answer_189 (by decide) ?_
                    refine z_idiv C0 dX1_answer_191 (by decide) ?_
                    obtain ⟨r47, e_r47, h⟩ := zbd_of h
                    refine z_callV (As := [.int (v1 % (10 : Int32)), .int ((v1 - (140 : Int32)) / (10 : Int32))]) (rest := []) C0 rfl kc_X6_number km_RX1_80 (r_X6_number (l := l) (g := g) (a0 + 10) (v1 % (10 : Int32)) ((v1 - (140 : Int32)) / (10 : Int32)) μ (zs_1_5 hT0).2 e_r47) (zs_1_5 hT0).2.1 (zs_1_5 hT0).2.2.2.1 rfl (by decide) rfl (Nat.le_of_ble_eq_true rfl) (Nat.le_of_ble_eq_true rfl) (Nat.le_of_ble_eq_true rfl) (Nat.le_of_ble_eq_true rfl) (Nat.le_refl _) rfl rfl dX1_answer_192 ?_
                    refine z_goto C0 199 dX1_answer_195 (by decide) ?_
                    refine z_sub (lo1 := []) [] rfl ?_
                    obtain rfl := (Option.some.inj h)
                    exact k_J46
              · have h := zif_f c43 h
                refine z_aload_n C0 dX1_answer_150 rfl 0 rfl ?_
                refine z_getr C0 hT0 kf_1_30 zr_1_4 zx_1 (zs_1_4 hT0).1 dX1_answer_151 ?_
                refine z_iload_n C0 dX1_answer_154 rfl 1 rfl ?_
                refine z_bipush (v := (10 : Int32)) C0 dX1_answer_155 (by decide) ?_
                refine z_irem C0 dX1_answer_157 (by decide) ?_
                refine z_iload_n C0 dX1_answer_158 rfl 1 rfl ?_
                refine z_bipush (v := (110 : Int32)) C0 dX1_answer_159 (by decide) ?_
                refine z_isub C0 dX1_answer_161 ?_
                refine z_bipush (v := (10 : Int32)) C0 dX1_answer_162 (by decide) ?_
                refine z_idiv C0 dX1_answer_164 (by decide) ?_
                obtain ⟨r49, e_r49, h⟩ := zbd_of h
                refine z_callV (As := [.int (v1 % (10 : Int32)), .int ((v1 - (110 : Int32)) / (10 : Int32))]) (rest := []) C0 rfl kc_X6_number km_RX1_80 (r_X6_number (l := l) (g := g) (a0 + 8) (v1 % (10 : Int32)) ((v1 - (110 : Int32)) / (10 : Int32)) μ (zs_1_4 hT0).2 e_r49) (zs_1_4 hT0).2.1 (zs_1_4 hT0).2.2.2.1 rfl (by decide) rfl (Nat.le_of_ble_eq_true rfl) (Nat.le_of_ble_eq_true rfl) (Nat.le_of_ble_eq_true rfl) (Nat.le_of_ble_eq_true rfl) (Nat.le_refl _) rfl rfl dX1_answer_165 ?_
                have h := Option.some.inj h
                obtain rfl := h
                exact z_iret C0 rfl dX1_answer_168
            · have h := zif_f c40 h
              refine z_aload_n C0 dX1_answer_130 rfl 0 rfl ?_
              refine z_getr C0 hT0 kf_1_27 zr_1_3 zx_1 (zs_1_3 hT0).1 dX1_answer_131 ?_
              refine z_iload_n C0 dX1_answer_134 rfl 1 rfl ?_
              refine z_bipush (v := (100 : Int32)) C0 dX1_answer_135 (by decide) ?_
              refine z_isub C0 dX1_answer_137 ?_
              refine z_iconst (v := (0 : Int32)) C0 dX1_answer_138 (by decide) ?_
              obtain ⟨r50, e_r50, h⟩ := zbd_of h
              refine z_callV (As := [.int (v1 - (100 : Int32)), .int (0 : Int32)]) (rest := []) C0 rfl kc_X6_number km_RX1_80 (r_X6_number (l := l) (g := g) (a0 + 6) (v1 - (100 : Int32)) (0 : Int32) μ (zs_1_3 hT0).2 e_r50) (zs_1_3 hT0).2.1 (zs_1_3 hT0).2.2.2.1 rfl (by decide) rfl (Nat.le_of_ble_eq_true rfl) (Nat.le_of_ble_eq_true rfl) (Nat.le_of_ble_eq_true rfl) (Nat.le_of_ble_eq_true rfl) (Nat.le_refl _) rfl rfl dX1_answer_139 ?_
              have h := Option.some.inj h
              obtain rfl := h
              exact z_iret C0 rfl dX1_answer_142
          · have h := zif_f c35 h
            refine z_iload_n C0 dX1_answer_90 rfl 1 rfl ?_
            refine z_bipush (v := (80 : Int32)) C0 dX1_answer_91 (by decide) ?_
            obtain ⟨x55, e_x55, h⟩ := zbd_of h
            refine z_join μ 123 [] [.int x55] ?_ (fun k_J52 => ?_)
            · have h := Option.some.inj h
              obtain rfl := h
              exact z_iret C0 rfl dX1_answer_123
            · have h := e_x55
              refine z_icmp_ge C0 111 dX1_answer_93 (by decide) (fun c51 => ?_) (fun c51 => ?_)
              · have h := zif_t c51 h
                refine z_aload_n C0 dX1_answer_111 rfl 0 rfl ?_
                refine z_getr C0 hT0 kf_1_24 zr_1_2 zx_1 (zs_1_2 hT0).1 dX1_answer_112 ?_
                refine z_iload_n C0 dX1_answer_115 rfl 1 rfl ?_
                refine z_bipush (v := (80 : Int32)) C0 dX1_answer_116 (by decide) ?_
                refine z_isub C0 dX1_answer_118 ?_
                refine z_iconst (v := (1 : Int32)) C0 dX1_answer_119 (by decide) ?_
                obtain ⟨r53, e_r53, h⟩ := zbd_of h
                refine z_callV (As := [.int (v1 - (80 : Int32)), .int (1 : Int32)]) (rest := []) C0 rfl kc_X6_number km_RX1_80 (r_X6_number (l := l) (g := g) (a0 + 4) (v1 - (80 : Int32)) (1 : Int32) μ (zs_1_2 hT0).2 e_r53) (zs_1_2 hT0).2.1 (zs_1_2 hT0).2.2.2.1 rfl (by decide) rfl (Nat.le_of_ble_eq_true rfl) (Nat.le_of_ble_eq_true rfl) (Nat.le_of_ble_eq_true rfl) (Nat.le_of_ble_eq_true rfl) (Nat.le_refl _) rfl rfl dX1_answer_120 ?_
                refine z_sub (lo1 := []) [] rfl ?_
                obtain rfl := (Option.some.inj h)
                exact k_J52
              · have h := zif_f c51 h
                refine z_aload_n C0 dX1_answer_96 rfl 0 rfl ?_
                refine z_getr C0 hT0 kf_1_24 zr_1_2 zx_1 (zs_1_2 hT0).1 dX1_answer_97 ?_
                refine z_iload_n C0 dX1_answer_100 rfl 1 rfl ?_
                refine z_bipush (v := (60 : Int32)) C0 dX1_answer_101 (by decide) ?_
                refine z_isub C0 dX1_answer_103 ?_
                refine z_iconst (v := (0 : Int32)) C0 dX1_answer_104 (by decide) ?_
                obtain ⟨r54, e_r54, h⟩ := zbd_of h
                refine z_callV (As := [.int (v1 - (60 : Int32)), .int (0 : Int32)]) (rest := []) C0 rfl kc_X6_number km_RX1_80 (r_X6_number (l := l) (g := g) (a0 + 4) (v1 - (60 : Int32)) (0 : Int32) μ (zs_1_2 hT0).2 e_r54) (zs_1_2 hT0).2.1 (zs_1_2 hT0).2.2.2.1 rfl (by decide) rfl (Nat.le_of_ble_eq_true rfl) (Nat.le_of_ble_eq_true rfl) (Nat.le_of_ble_eq_true rfl) (Nat.le_of_ble_eq_true rfl) (Nat.le_refl _) rfl rfl dX1_answer_105 ?_
                refine z_goto C0 123 dX1_answer_108 (by decide) ?_
                refine z_sub (lo1 := []) [] rfl ?_
                obtain rfl := (Option.some.inj h)
                exact k_J52
        · have h := zif_f c28 h
          refine z_iload_n C0 dX1_answer_50 rfl 1 rfl ?_
          refine z_bipush (v := (40 : Int32)) C0 dX1_answer_51 (by decide) ?_
          obtain ⟨x60, e_x60, h⟩ := zbd_of h
          refine z_join μ 83 [] [.int x60] ?_ (fun k_J57 => ?_)
          · have h := Option.some.inj h
            obtain rfl := h
            exact z_iret C0 rfl dX1_answer_83
          · have h := e_x60
            refine z_icmp_ge C0 71 dX1_answer_53 (by decide) (fun c56 => ?_) (fun c56 => ?_)
            · have h := zif_t c56 h
              refine z_aload_n C0 dX1_answer_71 rfl 0 rfl ?_
              refine z_getr C0 hT0 kf_1_20 zr_1_1 zx_1 (zs_1_1 hT0).1 dX1_answer_72 ?_
              refine z_iload_n C0 dX1_answer_75 rfl 1 rfl ?_
              refine z_bipush (v := (40 : Int32)) C0 dX1_answer_76 (by decide) ?_
              refine z_isub C0 dX1_answer_78 ?_
              refine z_iconst (v := (1 : Int32)) C0 dX1_answer_79 (by decide) ?_
              obtain ⟨r58, e_r58, h⟩ := zbd_of h
              refine z_callV (As := [.int (v1 - (40 : Int32)), .int (1 : Int32)]) (rest := []) C0 rfl kc_X6_number km_RX1_80 (r_X6_number (l := l) (g := g) (a0 + 2) (v1 - (40 : Int32)) (1 : Int32) μ (zs_1_1 hT0).2 e_r58) (zs_1_1 hT0).2.1 (zs_1_1 hT0).2.2.2.1 rfl (by decide) rfl (Nat.le_of_ble_eq_true rfl) (Nat.le_of_ble_eq_true rfl) (Nat.le_of_ble_eq_true rfl) (Nat.le_of_ble_eq_true rfl) (Nat.le_refl _) rfl rfl dX1_answer_80 ?_
              refine z_sub (lo1 := []) [] rfl ?_
              obtain rfl := (Option.some.inj h)
              exact k_J57
            · have h := zif_f c56 h
              refine z_aload_n C0 dX1_answer_56 rfl 0 rfl ?_
              refine z_getr C0 hT0 kf_1_20 zr_1_1 zx_1 (zs_1_1 hT0).1 dX1_answer_57 ?_
              refine z_iload_n C0 dX1_answer_60 rfl 1 rfl ?_
              refine z_bipush (v := (20 : Int32)) C0 dX1_answer_61 (by decide) ?_
              refine z_isub C0 dX1_answer_63 ?_
              refine z_iconst (v := (0 : Int32)) C0 dX1_answer_64 (by decide) ?_
              obtain ⟨r59, e_r59, h⟩ := zbd_of h
              refine z_callV (As := [.int (v1 - (20 : Int32)), .int (0 : Int32)]) (rest := []) C0 rfl kc_X6_number km_RX1_80 (r_X6_number (l := l) (g := g) (a0 + 2) (v1 - (20 : Int32)) (0 : Int32) μ (zs_1_1 hT0).2 e_r59) (zs_1_1 hT0).2.1 (zs_1_1 hT0).2.2.2.1 rfl (by decide) rfl (Nat.le_of_ble_eq_true rfl) (Nat.le_of_ble_eq_true rfl) (Nat.le_of_ble_eq_true rfl) (Nat.le_of_ble_eq_true rfl) (Nat.le_refl _) rfl rfl dX1_answer_65 ?_
              refine z_goto C0 83 dX1_answer_68 (by decide) ?_
              refine z_sub (lo1 := []) [] rfl ?_
              obtain rfl := (Option.some.inj h)
              exact k_J57
      · have h := zif_f c20 h
        refine z_aload_n C0 dX1_answer_25 rfl 0 rfl ?_
        refine z_iload_n C0 dX1_answer_26 rfl 1 rfl ?_
        obtain ⟨r61, e_r61, h⟩ := zl_of h
        refine z_callV (As := [.int v1]) (rest := []) C0 rfl kc_X1_rowsOf km_RX1_89 (r_X1_rowsOf (l := l) (g := g) (μ := μ) a0 v1 hT0 e_r61.symm) hT0.1 hT0.2.2.1 rfl (by decide) rfl (Nat.le_of_ble_eq_true rfl) (Nat.le_of_ble_eq_true rfl) (Nat.le_of_ble_eq_true rfl) (Nat.le_of_ble_eq_true rfl) (Nat.le_refl _) rfl rfl dX1_answer_27 ?_
        refine z_astoreq_n (lo1 := [(2, zopt (zb g) r61), (0, .ref (zb g + a0)), (1, .int v1)]) C0 dX1_answer_30 rfl (by decide) rfl ?_
        refine z_aloadq_n C0 dX1_answer_31 rfl 0 rfl ?_
        obtain ⟨x65, e_x65, h⟩ := zbd_of h
        refine z_join μ 43 [] [.int x65] ?_ (fun k_J62 => ?_)
        · have h := Option.some.inj h
          obtain rfl := h
          exact z_iret C0 rfl dX1_answer_43
        · have h := e_x65
          refine z_ifnonnullq C0 39 dX1_answer_32 (by decide) (fun w63 c67 => ?_) (fun c67 => ?_)
          · have h_c67 := zcase_s c67 h
            clear h
            subst c67
            have h := h_c67
            obtain ⟨g64, h⟩ := zg_of h
            refine z_loc (lo1 := [(2, .ref (zb g + w63)), (0, .ref (zb g + a0)), (1, .int v1)]) rfl ?_
            refine z_aload_n C0 dX1_answer_39 rfl 0 rfl ?_
            refine z_geti C0 (zgn_T g64 (by decide)).1 (zgn_T g64 (by decide)).2.2.1 kf_1_60 zr_6_2 dX1_answer_40 ?_
            refine z_sub (lo1 := []) [] rfl ?_
            obtain rfl := (Option.some.inj h)
            exact k_J62
          · have h_c67 := zcase_n c67 h
            clear h
            subst c67
            have h := h_c67
            refine z_loc (lo1 := [(2, .null), (0, .ref (zb g + a0)), (1, .int v1)]) rfl ?_
            refine z_iconst (v := (-1 : Int32)) C0 dX1_answer_35 (by decide) ?_
            refine z_goto C0 43 dX1_answer_36 (by decide) ?_
            refine z_sub (lo1 := []) [] rfl ?_
            obtain rfl := (Option.some.inj h)
            exact k_J62
    · have h := zif_f c11 h
      refine z_aload_n C0 dX1_answer_12 rfl 0 rfl ?_
      refine z_getr C0 hT0 kf_1_11 zr_1_0 zx_1 (zs_1_0 hT0).1 dX1_answer_13 ?_
      refine z_iload_n C0 dX1_answer_16 rfl 1 rfl ?_
      obtain ⟨g66, h⟩ := zg_of h
      refine z_iald C0 (zs_1_0 hT0).2 g66 rfl dX1_answer_17 ?_
      have h := Option.some.inj h
      obtain rfl := h
      exact z_iret C0 rfl dX1_answer_18
  · have h := zif_f c1 h
    refine z_iconst (v := (-1 : Int32)) C0 dX1_answer_4 (by decide) ?_
    have h := Option.some.inj h
    obtain rfl := h
    exact z_iret C0 rfl dX1_answer_5
def f_X1_graveWeight_L4 (a0 : Nat) (μ4 : zM) : Nat → Int32 → Int32 → Option (Int32)
  | 0, _, _ => none
  | n + 1, y2, y3 =>
    if (μ4 (a0 + 4) 2) ≤ y3 then
      some y2
    else
      zbd (f_X6_number (a0 + 4) y3 (1 : Int32) μ4) fun r6 =>
      zl (y2 + r6) fun x7 =>
      zl (y3 + (1 : Int32)) fun x8 =>
      f_X1_graveWeight_L4 a0 μ4 n x7 x8
def f_X1_graveWeight (a0 : Nat) (μ : zM) : Option (Int32) :=
  zbd (f_X1_graveWeight_L4 a0 μ zFU (0 : Int32) (0 : Int32)) fun x9 =>
  some x9
set_option maxHeartbeats 4000000 in
set_option maxRecDepth 100000 in
theorem r_X1_graveWeight_L4 {l : Launch} {g : zL} {p : Program} {e : Env} {s : State} {m : MethodId} {args : Array Value} {below : List Frame} {meth : Method} {c : Code} {Q : State → Prop} (C0 : zC p s m args meth c g cX1_graveWeight yX1_graveWeight 3 (some (.int))) (a0 : Nat) (μ4 : zM) (hU1 : zT zNN zσ1 a0 1) : ∀ (n : Nat) (y2 : Int32) (y3 : Int32) (x9 : Int32), f_X1_graveWeight_L4 a0 μ4 n y2 y3 = some x9 → Z p l e (zrm 1 0 0) s m args below meth c g Q 3 zNN 0 0 zσ1 μ4 33 [(1, .int x9)] [] → Z p l e (zrm 1 0 0) s m args below meth c g Q 3 zNN 0 0 zσ1 μ4 4 [(0, .ref (zb g + a0)), (1, .int y2), (2, .int y3)] [] := by
  intro n
  induction n with
  | zero =>
    intro y2 y3 x9 h kx
    rw [f_X1_graveWeight_L4] at h
    cases h
  | succ n ih =>
    intro y2 y3 x9 h kx
    rw [f_X1_graveWeight_L4] at h
    refine z_iload_n C0 dX1_graveWeight_4 rfl 2 rfl ?_
    refine z_aload_n C0 dX1_graveWeight_5 rfl 0 rfl ?_
    refine z_getr C0 hU1 kf_1_24 zr_1_2 zx_1 (zs_1_2 hU1).1 dX1_graveWeight_6 ?_
    refine z_geti C0 (zs_1_2 hU1).2.1 (zs_1_2 hU1).2.2.2.1 kf_1_60 zr_6_2 dX1_graveWeight_9 ?_
    refine z_icmp_ge C0 33 dX1_graveWeight_12 (by decide) (fun c5 => ?_) (fun c5 => ?_)
    · have h := zif_t c5 h
      refine z_sub (lo1 := [(1, .int y2)]) [1] rfl ?_
      obtain rfl := (Option.some.inj h)
      exact kx
    · have h := zif_f c5 h
      refine z_iload_n C0 dX1_graveWeight_15 rfl 1 rfl ?_
      refine z_aload_n C0 dX1_graveWeight_16 rfl 0 rfl ?_
      refine z_getr C0 hU1 kf_1_24 zr_1_2 zx_1 (zs_1_2 hU1).1 dX1_graveWeight_17 ?_
      refine z_iload_n C0 dX1_graveWeight_20 rfl 2 rfl ?_
      refine z_iconst (v := (1 : Int32)) C0 dX1_graveWeight_21 (by decide) ?_
      obtain ⟨r6, e_r6, h⟩ := zbd_of h
      refine z_callV (As := [.int y3, .int (1 : Int32)]) (rest := [.int y2]) C0 rfl kc_X6_number km_RX1_80 (r_X6_number (l := l) (g := g) (a0 + 4) y3 (1 : Int32) μ4 (zs_1_2 hU1).2 e_r6) (zs_1_2 hU1).2.1 (zs_1_2 hU1).2.2.2.1 rfl (by decide) rfl (Nat.le_of_ble_eq_true rfl) (Nat.le_of_ble_eq_true rfl) (Nat.le_of_ble_eq_true rfl) (Nat.le_of_ble_eq_true rfl) (Nat.le_refl _) rfl rfl dX1_graveWeight_22 ?_
      refine z_iadd C0 dX1_graveWeight_25 ?_
      obtain ⟨x7, e_x7, h⟩ := zl_of h
      refine z_nm e_x7 ?_
      refine z_istore_n (lo1 := [(1, .int x7), (0, .ref (zb g + a0)), (2, .int y3)]) C0 dX1_graveWeight_26 rfl (by decide) rfl ?_
      obtain ⟨x8, e_x8, h⟩ := zl_of h
      refine z_iinc (lo1 := [(2, .int x8), (1, .int x7), (0, .ref (zb g + a0))]) C0 dX1_graveWeight_27 2 rfl (by decide) e_x8.symm (by decide) rfl ?_
      refine z_goto C0 4 dX1_graveWeight_30 (by decide) ?_
      refine z_sub (lo1 := [(0, .ref (zb g + a0)), (1, .int x7), (2, .int x8)]) [2, 1, 0] rfl ?_
      exact ih _ _ _ h kx
set_option maxHeartbeats 4000000 in
set_option maxRecDepth 100000 in
theorem r_X1_graveWeight {l : Launch} {g : zL} (a0 : Nat) (μ : zM) (hT0 : zT zNN zσ1 a0 1) {rv : Int32} (h : f_X1_graveWeight a0 μ = some rv) : zMet l g yX1_graveWeight cX1_graveWeight 3 (some (.int)) 1 0 0 zNN zNN zσ1 zσ1 [.ref (zb g + a0)] μ (some (.int rv)) μ := by
  refine zMet.of (by decide +kernel) (Nat.le_of_ble_eq_true rfl) ?_
  intro p e s m args below meth c C0
  refine z_loc (lo1 := [(0, .ref (zb g + a0))]) rfl ?_
  unfold f_X1_graveWeight at h
  refine z_iconst (v := (0 : Int32)) C0 dX1_graveWeight_0 (by decide) ?_
  refine z_istore_n (lo1 := [(1, .int (0 : Int32)), (0, .ref (zb g + a0))]) C0 dX1_graveWeight_1 rfl (by decide) rfl ?_
  refine z_iconst (v := (0 : Int32)) C0 dX1_graveWeight_2 (by decide) ?_
  refine z_istore_n (lo1 := [(2, .int (0 : Int32)), (1, .int (0 : Int32)), (0, .ref (zb g + a0))]) C0 dX1_graveWeight_3 rfl (by decide) rfl ?_
  refine z_sub (lo1 := [(0, .ref (zb g + a0)), (1, .int (0 : Int32)), (2, .int (0 : Int32))]) [2, 1, 0] rfl ?_
  obtain ⟨x9, e_x9, h⟩ := zbd_of h
  refine r_X1_graveWeight_L4 C0 a0 μ hT0 zFU (0 : Int32) (0 : Int32) x9 e_x9 ?_
  refine z_iload_n C0 dX1_graveWeight_33 rfl 0 rfl ?_
  have h := Option.some.inj h
  obtain rfl := h
  exact z_iret C0 rfl dX1_graveWeight_34
def f_X1_hasCell (a0 : Nat) (v1 : Int32) (v2 : Int32) (μ : zM) : Int32 :=
  zl (if (¬ (v1 < 0)) ∧ ((¬ ((μ (a0 + 1) 0) ≤ v1)) ∧ ((¬ (v2 < 0)) ∧ (¬ ((μ (a0 + 1) 1) ≤ v2)))) then
      (1 : Int32)
    else
      (0 : Int32)) fun x6 =>
  x6
set_option maxHeartbeats 4000000 in
set_option maxRecDepth 100000 in
theorem r_X1_hasCell {l : Launch} {g : zL} (a0 : Nat) (v1 : Int32) (v2 : Int32) (μ : zM) (hT0 : zT zNN zσ1 a0 1) {rv : Int32} (h : f_X1_hasCell a0 v1 v2 μ = rv) : zMet l g yX1_hasCell cX1_hasCell 3 (some (.boolean)) 0 0 0 zNN zNN zσ1 zσ1 [.ref (zb g + a0), .int v1, .int v2] μ (some (.int rv)) μ := by
  refine zMet.of (by decide +kernel) (Nat.le_of_ble_eq_true rfl) ?_
  intro p e s m args below meth c C0
  refine z_loc (lo1 := [(0, .ref (zb g + a0)), (1, .int v1), (2, .int v2)]) rfl ?_
  unfold f_X1_hasCell at h
  refine z_iload_n C0 dX1_hasCell_0 rfl 1 rfl ?_
  obtain ⟨x6, e_x6, h⟩ := zl_of h
  refine z_join μ 33 [] [.int x6] ?_ (fun k_J5 => ?_)
  · skip
    obtain rfl := h
    exact z_zret C0 rfl (by rw [e_x6]; repeat' split <;> rfl) dX1_hasCell_33
  · have h := e_x6.symm
    by_cases hc7 : (¬ (v1 < 0)) ∧ ((¬ ((μ (a0 + 1) 0) ≤ v1)) ∧ ((¬ (v2 < 0)) ∧ (¬ ((μ (a0 + 1) 1) ≤ v2))))
    · have h := zif_t hc7 h
      refine z_join μ 28 [(0, .ref (zb g + a0)), (1, .int v1), (2, .int v2)] [] ?_ (fun k8 => ?_)
      · refine z_iconst (v := (1 : Int32)) C0 dX1_hasCell_28 (by decide) ?_
        refine z_goto C0 33 dX1_hasCell_29 (by decide) ?_
        refine z_sub (lo1 := []) [] rfl ?_
        obtain rfl := h
        exact k_J5
      · refine z_if_lt C0 32 dX1_hasCell_1 (by decide) (fun c1 => ?_) (fun c1 => ?_)
        · exact absurd hc7 (fun q => q.1 c1)
        · refine z_iload_n C0 dX1_hasCell_4 rfl 1 rfl ?_
          refine z_aload_n C0 dX1_hasCell_5 rfl 0 rfl ?_
          refine z_getr C0 hT0 kf_1_11 zr_1_0 zx_1 (zs_1_0 hT0).1 dX1_hasCell_6 ?_
          refine z_iconst (v := (0 : Int32)) C0 dX1_hasCell_9 (by decide) ?_
          refine z_iald (j := 0) C0 (zs_1_0 hT0).2 (by decide : zin (0 : Int32) 11 = true) (by decide) dX1_hasCell_10 ?_
          refine z_icmp_ge C0 32 dX1_hasCell_11 (by decide) (fun c2 => ?_) (fun c2 => ?_)
          · exact absurd hc7 (fun q => (fun q => q.1 c2) q.2)
          · refine z_iload_n C0 dX1_hasCell_14 rfl 2 rfl ?_
            refine z_if_lt C0 32 dX1_hasCell_15 (by decide) (fun c3 => ?_) (fun c3 => ?_)
            · exact absurd hc7 (fun q => (fun q => (fun q => q.1 c3) q.2) q.2)
            · refine z_iload_n C0 dX1_hasCell_18 rfl 2 rfl ?_
              refine z_aload_n C0 dX1_hasCell_19 rfl 0 rfl ?_
              refine z_getr C0 hT0 kf_1_11 zr_1_0 zx_1 (zs_1_0 hT0).1 dX1_hasCell_20 ?_
              refine z_iconst (v := (1 : Int32)) C0 dX1_hasCell_23 (by decide) ?_
              refine z_iald (j := 1) C0 (zs_1_0 hT0).2 (by decide : zin (1 : Int32) 11 = true) (by decide) dX1_hasCell_24 ?_
              refine z_icmp_ge C0 32 dX1_hasCell_25 (by decide) (fun c4 => ?_) (fun c4 => ?_)
              · exact absurd hc7 (fun q => (fun q => (fun q => (fun q => q c4) q.2) q.2) q.2)
              · exact k8
    · have h := zif_f hc7 h
      refine z_join μ 32 [(0, .ref (zb g + a0)), (1, .int v1), (2, .int v2)] [] ?_ (fun k9 => ?_)
      · refine z_iconst (v := (0 : Int32)) C0 dX1_hasCell_32 (by decide) ?_
        refine z_sub (lo1 := []) [] rfl ?_
        obtain rfl := h
        exact k_J5
      · refine z_if_lt C0 32 dX1_hasCell_1 (by decide) (fun c1 => ?_) (fun c1 => ?_)
        · exact k9
        · refine z_iload_n C0 dX1_hasCell_4 rfl 1 rfl ?_
          refine z_aload_n C0 dX1_hasCell_5 rfl 0 rfl ?_
          refine z_getr C0 hT0 kf_1_11 zr_1_0 zx_1 (zs_1_0 hT0).1 dX1_hasCell_6 ?_
          refine z_iconst (v := (0 : Int32)) C0 dX1_hasCell_9 (by decide) ?_
          refine z_iald (j := 0) C0 (zs_1_0 hT0).2 (by decide : zin (0 : Int32) 11 = true) (by decide) dX1_hasCell_10 ?_
          refine z_icmp_ge C0 32 dX1_hasCell_11 (by decide) (fun c2 => ?_) (fun c2 => ?_)
          · exact k9
          · refine z_iload_n C0 dX1_hasCell_14 rfl 2 rfl ?_
            refine z_if_lt C0 32 dX1_hasCell_15 (by decide) (fun c3 => ?_) (fun c3 => ?_)
            · exact k9
            · refine z_iload_n C0 dX1_hasCell_18 rfl 2 rfl ?_
              refine z_aload_n C0 dX1_hasCell_19 rfl 0 rfl ?_
              refine z_getr C0 hT0 kf_1_11 zr_1_0 zx_1 (zs_1_0 hT0).1 dX1_hasCell_20 ?_
              refine z_iconst (v := (1 : Int32)) C0 dX1_hasCell_23 (by decide) ?_
              refine z_iald (j := 1) C0 (zs_1_0 hT0).2 (by decide : zin (1 : Int32) 11 = true) (by decide) dX1_hasCell_24 ?_
              refine z_icmp_ge C0 32 dX1_hasCell_25 (by decide) (fun c4 => ?_) (fun c4 => ?_)
              · exact k9
              · exact absurd ⟨c1, ⟨c2, ⟨c3, c4⟩⟩⟩ hc7
def f_X6_add (a0 : Nat) (v1 : Int32) (v2 : Int32) (v3 : Int32) (μ : zM) : Option (Int32 × zM) :=
  if (μ a0 2) < (μ a0 0) then
    zg (zin ((μ a0 2) * (3 : Int32)) (zln (a0 + 1))) <|
    zl (zup μ (a0 + 1) (((μ a0 2) * (3 : Int32)).toNatClampNeg) v1) fun μ3 =>
    zg (zin (((μ3 a0 2) * (3 : Int32)) + (1 : Int32)) (zln (a0 + 1))) <|
    zl (zup μ3 (a0 + 1) ((((μ3 a0 2) * (3 : Int32)) + (1 : Int32)).toNatClampNeg) v2) fun μ5 =>
    zg (zin (((μ5 a0 2) * (3 : Int32)) + (2 : Int32)) (zln (a0 + 1))) <|
    zl (zup μ5 (a0 + 1) ((((μ5 a0 2) * (3 : Int32)) + (2 : Int32)).toNatClampNeg) v3) fun μ7 =>
    zl (zup μ7 a0 2 ((μ7 a0 2) + (1 : Int32))) fun μ8 =>
    some ((1 : Int32), μ8)
  else
    some ((0 : Int32), μ)
set_option maxHeartbeats 4000000 in
set_option maxRecDepth 100000 in
theorem r_X6_add {l : Launch} {g : zL} (a0 : Nat) (v1 : Int32) (v2 : Int32) (v3 : Int32) (μ : zM) (hT0 : zT zNN zσ1 a0 6) {rv : Int32} {μr : zM} (h : f_X6_add a0 v1 v2 v3 μ = some (rv, μr)) : zMet l g yX6_add cX6_add 4 (some (.boolean)) 0 0 0 zNN zNN zσ1 zσ1 [.ref (zb g + a0), .int v1, .int v2, .int v3] μ (some (.int rv)) μr := by
  refine zMet.of (by decide +kernel) (Nat.le_of_ble_eq_true rfl) ?_
  intro p e s m args below meth c C0
  refine z_loc (lo1 := [(0, .ref (zb g + a0)), (1, .int v1), (2, .int v2), (3, .int v3)]) rfl ?_
  unfold f_X6_add at h
  refine z_aload_n C0 dX6_add_0 rfl 0 rfl ?_
  refine z_geti C0 hT0.1 hT0.2.2.1 kf_6_25 zr_6_2 dX6_add_1 ?_
  refine z_aload_n C0 dX6_add_4 rfl 0 rfl ?_
  refine z_geti C0 hT0.1 hT0.2.2.1 kf_6_15 zr_6_0 dX6_add_5 ?_
  refine z_icmp_lt C0 13 dX6_add_8 (by decide) (fun c1 => ?_) (fun c1 => ?_)
  · have h := zif_t c1 h
    refine z_aload_n C0 dX6_add_13 rfl 0 rfl ?_
    refine z_getr C0 hT0 kf_6_21 zr_6_1 zx_6 (zs_6_1 hT0).1 dX6_add_14 ?_
    refine z_aload_n C0 dX6_add_17 rfl 0 rfl ?_
    refine z_geti C0 hT0.1 hT0.2.2.1 kf_6_25 zr_6_2 dX6_add_18 ?_
    refine z_iconst (v := (3 : Int32)) C0 dX6_add_21 (by decide) ?_
    refine z_imul C0 dX6_add_22 ?_
    refine z_iload_n C0 dX6_add_23 rfl 1 rfl ?_
    obtain ⟨g2, h⟩ := zg_of h
    obtain ⟨μ3, e_μ3, h⟩ := zl_of h
    refine z_iast C0 (zs_6_1 hT0).2 g2 rfl e_μ3 dX6_add_24 ?_
    refine z_aload_n C0 dX6_add_25 rfl 0 rfl ?_
    refine z_getr C0 hT0 kf_6_21 zr_6_1 zx_6 (zs_6_1 hT0).1 dX6_add_26 ?_
    refine z_aload_n C0 dX6_add_29 rfl 0 rfl ?_
    refine z_geti C0 hT0.1 hT0.2.2.1 kf_6_25 zr_6_2 dX6_add_30 ?_
    refine z_iconst (v := (3 : Int32)) C0 dX6_add_33 (by decide) ?_
    refine z_imul C0 dX6_add_34 ?_
    refine z_iconst (v := (1 : Int32)) C0 dX6_add_35 (by decide) ?_
    refine z_iadd C0 dX6_add_36 ?_
    refine z_iload_n C0 dX6_add_37 rfl 2 rfl ?_
    obtain ⟨g4, h⟩ := zg_of h
    obtain ⟨μ5, e_μ5, h⟩ := zl_of h
    refine z_iast C0 (zs_6_1 hT0).2 g4 rfl e_μ5 dX6_add_38 ?_
    refine z_aload_n C0 dX6_add_39 rfl 0 rfl ?_
    refine z_getr C0 hT0 kf_6_21 zr_6_1 zx_6 (zs_6_1 hT0).1 dX6_add_40 ?_
    refine z_aload_n C0 dX6_add_43 rfl 0 rfl ?_
    refine z_geti C0 hT0.1 hT0.2.2.1 kf_6_25 zr_6_2 dX6_add_44 ?_
    refine z_iconst (v := (3 : Int32)) C0 dX6_add_47 (by decide) ?_
    refine z_imul C0 dX6_add_48 ?_
    refine z_iconst (v := (2 : Int32)) C0 dX6_add_49 (by decide) ?_
    refine z_iadd C0 dX6_add_50 ?_
    refine z_iload_n C0 dX6_add_51 rfl 3 rfl ?_
    obtain ⟨g6, h⟩ := zg_of h
    obtain ⟨μ7, e_μ7, h⟩ := zl_of h
    refine z_iast C0 (zs_6_1 hT0).2 g6 rfl e_μ7 dX6_add_52 ?_
    refine z_aload_n C0 dX6_add_53 rfl 0 rfl ?_
    refine z_dup C0 dX6_add_54 rfl ?_
    refine z_geti C0 hT0.1 hT0.2.2.1 kf_6_25 zr_6_2 dX6_add_55 ?_
    refine z_iconst (v := (1 : Int32)) C0 dX6_add_58 (by decide) ?_
    refine z_iadd C0 dX6_add_59 ?_
    obtain ⟨μ8, e_μ8, h⟩ := zl_of h
    refine z_puti C0 hT0.1 hT0.2.2.1 kf_6_25 zp_6_2 zr_6_2 e_μ8 dX6_add_60 ?_
    refine z_iconst (v := (1 : Int32)) C0 dX6_add_63 (by decide) ?_
    have h := Option.some.inj h
    obtain ⟨rfl, rfl⟩ := Prod.mk.inj h
    exact z_zret C0 rfl (by decide) dX6_add_64
  · have h := zif_f c1 h
    refine z_iconst (v := (0 : Int32)) C0 dX6_add_11 (by decide) ?_
    have h := Option.some.inj h
    obtain ⟨rfl, rfl⟩ := Prod.mk.inj h
    exact z_zret C0 rfl (by decide) dX6_add_12
def f_X1_hasNoPlaceFor_L2 (a0 : Nat) (a1 : Nat) (μ4 : zM) : Nat → Int32 → Option ((Int32) ⊕ (Unit))
  | 0, _ => none
  | n + 1, y3 =>
    if (μ4 a1 2) ≤ y3 then
      some (.inr ())
    else
      zbd (f_X6_number a1 y3 (0 : Int32) μ4) fun r10 =>
      if r10 < (f_X1_places a0 μ4) then
        zl (y3 + (1 : Int32)) fun x12 =>
        f_X1_hasNoPlaceFor_L2 a0 a1 μ4 n x12
      else
        some (.inl (1 : Int32))
def f_X1_hasNoPlaceFor (a0 : Nat) (a1 : Nat) (μ : zM) : Option (Int32) :=
  zbd (f_X1_hasNoPlaceFor_L2 a0 a1 μ zFU (0 : Int32)) fun q13 => zsum q13 (fun t => some t) fun _ =>
  some (0 : Int32)
set_option maxHeartbeats 4000000 in
set_option maxRecDepth 100000 in
theorem r_X1_hasNoPlaceFor_L2 {l : Launch} {g : zL} {p : Program} {e : Env} {s : State} {m : MethodId} {args : Array Value} {below : List Frame} {meth : Method} {c : Code} {rv : Int32} (C0 : zC p s m args meth c g cX1_hasNoPlaceFor yX1_hasNoPlaceFor 3 (some (.boolean))) (a0 : Nat) (a1 : Nat) (μ4 : zM) (hU1 : zT zNN zσ1 a0 1) (hU2 : zT zNN zσ1 a1 6) : ∀ (n : Nat) (y3 : Int32) (q : (Int32) ⊕ (Unit)), f_X1_hasNoPlaceFor_L2 a0 a1 μ4 n y3 = some q → (∀ t, q = Sum.inl t → t = rv) → (∀ o, q = Sum.inr o → Z p l e (zrm 1 0 0) s m args below meth c g (MQ below (zQ g zNN zσ1 (some (.int rv)) μ4) args s 0 0 (zA g)) 3 zNN 0 0 zσ1 ((fun _ => μ4) o) 31 ((fun o => []) o) []) → Z p l e (zrm 1 0 0) s m args below meth c g (MQ below (zQ g zNN zσ1 (some (.int rv)) μ4) args s 0 0 (zA g)) 3 zNN 0 0 zσ1 μ4 2 [(0, .ref (zb g + a0)), (1, .ref (zb g + a1)), (2, .int y3)] [] := by
  intro n
  induction n with
  | zero =>
    intro y3 q h kr kx
    rw [f_X1_hasNoPlaceFor_L2] at h
    cases h
  | succ n ih =>
    intro y3 q h kr kx
    rw [f_X1_hasNoPlaceFor_L2] at h
    refine z_iload_n C0 dX1_hasNoPlaceFor_2 rfl 2 rfl ?_
    refine z_aload_n C0 dX1_hasNoPlaceFor_3 rfl 1 rfl ?_
    refine z_geti C0 hU2.1 hU2.2.2.1 kf_1_60 zr_6_2 dX1_hasNoPlaceFor_4 ?_
    refine z_icmp_ge C0 31 dX1_hasNoPlaceFor_7 (by decide) (fun c5 => ?_) (fun c5 => ?_)
    · have h := zif_t c5 h
      refine z_sub (lo1 := []) [] rfl ?_
      exact kx () (Option.some.inj h).symm
    · have h := zif_f c5 h
      refine z_aload_n C0 dX1_hasNoPlaceFor_10 rfl 1 rfl ?_
      refine z_iload_n C0 dX1_hasNoPlaceFor_11 rfl 2 rfl ?_
      refine z_iconst (v := (0 : Int32)) C0 dX1_hasNoPlaceFor_12 (by decide) ?_
      obtain ⟨r10, e_r10, h⟩ := zbd_of h
      refine z_callV (As := [.int y3, .int (0 : Int32)]) (rest := []) C0 rfl kc_X6_number km_RX1_80 (r_X6_number (l := l) (g := g) a1 y3 (0 : Int32) μ4 hU2 e_r10) hU2.1 hU2.2.2.1 rfl (by decide) rfl (Nat.le_of_ble_eq_true rfl) (Nat.le_of_ble_eq_true rfl) (Nat.le_of_ble_eq_true rfl) (Nat.le_of_ble_eq_true rfl) (Nat.le_refl _) rfl rfl dX1_hasNoPlaceFor_13 ?_
      refine z_aload_n C0 dX1_hasNoPlaceFor_16 rfl 0 rfl ?_
      refine z_callV (As := []) (rest := [.int r10]) C0 rfl kc_X1_places km_RX1_120 (r_X1_places (l := l) (g := g) a0 μ4 hU1 rfl) hU1.1 hU1.2.2.1 rfl (by decide) rfl (Nat.le_of_ble_eq_true rfl) (Nat.le_of_ble_eq_true rfl) (Nat.le_of_ble_eq_true rfl) (Nat.le_of_ble_eq_true rfl) (Nat.le_refl _) rfl rfl dX1_hasNoPlaceFor_17 ?_
      refine z_icmp_lt C0 25 dX1_hasNoPlaceFor_20 (by decide) (fun c11 => ?_) (fun c11 => ?_)
      · have h := zif_t c11 h
        obtain ⟨x12, e_x12, h⟩ := zl_of h
        refine z_iinc (lo1 := [(2, .int x12), (0, .ref (zb g + a0)), (1, .ref (zb g + a1))]) C0 dX1_hasNoPlaceFor_25 2 rfl (by decide) e_x12.symm (by decide) rfl ?_
        refine z_goto C0 2 dX1_hasNoPlaceFor_28 (by decide) ?_
        refine z_sub (lo1 := [(0, .ref (zb g + a0)), (1, .ref (zb g + a1)), (2, .int x12)]) [1, 2, 0] rfl ?_
        exact ih _ _ h kr kx
      · have h := zif_f c11 h
        refine z_iconst (v := (1 : Int32)) C0 dX1_hasNoPlaceFor_23 (by decide) ?_
        have h := kr _ (Option.some.inj h).symm
        obtain rfl := h
        exact z_zret C0 rfl (by decide) dX1_hasNoPlaceFor_24
set_option maxHeartbeats 4000000 in
set_option maxRecDepth 100000 in
theorem r_X1_hasNoPlaceFor {l : Launch} {g : zL} (a0 : Nat) (a1 : Nat) (μ : zM) (hT0 : zT zNN zσ1 a0 1) (hT1 : zT zNN zσ1 a1 6) {rv : Int32} (h : f_X1_hasNoPlaceFor a0 a1 μ = some rv) : zMet l g yX1_hasNoPlaceFor cX1_hasNoPlaceFor 3 (some (.boolean)) 1 0 0 zNN zNN zσ1 zσ1 [.ref (zb g + a0), .ref (zb g + a1)] μ (some (.int rv)) μ := by
  refine zMet.of (by decide +kernel) (Nat.le_of_ble_eq_true rfl) ?_
  intro p e s m args below meth c C0
  refine z_loc (lo1 := [(0, .ref (zb g + a0)), (1, .ref (zb g + a1))]) rfl ?_
  unfold f_X1_hasNoPlaceFor at h
  refine z_iconst (v := (0 : Int32)) C0 dX1_hasNoPlaceFor_0 (by decide) ?_
  refine z_istore_n (lo1 := [(2, .int (0 : Int32)), (0, .ref (zb g + a0)), (1, .ref (zb g + a1))]) C0 dX1_hasNoPlaceFor_1 rfl (by decide) rfl ?_
  refine z_sub (lo1 := [(0, .ref (zb g + a0)), (1, .ref (zb g + a1)), (2, .int (0 : Int32))]) [1, 2, 0] rfl ?_
  obtain ⟨q13, e_q13, h⟩ := zbd_of h
  refine r_X1_hasNoPlaceFor_L2 C0 a0 a1 μ hT0 hT1 zFU (0 : Int32) q13 e_q13 ?_ ?_
  · intro t ht
    have h := zsum_l h _ ht
    exact Option.some.inj h
  · intro u_ hq
    have h := zsum_r h _ hq
    refine z_iconst (v := (0 : Int32)) C0 dX1_hasNoPlaceFor_31 (by decide) ?_
    have h := Option.some.inj h
    obtain rfl := h
    exact z_zret C0 rfl (by decide) dX1_hasNoPlaceFor_32
def f_X1_wholeFault_L48 (a0 : Nat) (μ17 : zM) : Nat → Int32 → Option ((Int32) ⊕ (Unit))
  | 0, _ => none
  | n + 1, y16 =>
    if (μ17 (a0 + 2) 2) ≤ y16 then
      some (.inr ())
    else
      zbd (f_X6_number (a0 + 2) y16 (0 : Int32) μ17) fun r26 =>
      zbd (f_X6_number (a0 + 2) y16 (1 : Int32) μ17) fun r27 =>
      if ¬ (f_X1_hasCell a0 r26 r27 μ17) = 0 then
        zl (y16 + (1 : Int32)) fun x29 =>
        f_X1_wholeFault_L48 a0 μ17 n x29
      else
        some (.inl (6 : Int32))
def f_X1_wholeFault (a0 : Nat) (μ : zM) : Option (Int32) :=
  if ¬ (f_X1_surrounds a0 a0 (μ (a0 + 1) 4) (μ (a0 + 1) 5) μ) = 0 then
    zbd (f_X1_hasNoPlaceFor a0 (a0 + 4) μ) fun r9 =>
    zbd (if ¬ r9 = 0 then
        some false
      else
        zbd (f_X1_hasNoPlaceFor a0 (a0 + 10) μ) fun r12 =>
        if r12 = 0 then
          some true
        else
          some false) fun b14 =>
    if b14 = true then
      zbd (f_X1_wholeFault_L48 a0 μ zFU (0 : Int32)) fun q34 => zsum q34 (fun t => some t) fun _ =>
      zbd (f_X1_hasRockUnder a0 a0 (μ (a0 + 1) 4) (μ (a0 + 1) 5) μ) fun r30 =>
      zl (if r30 = 0 then
          (0 : Int32)
        else
          (6 : Int32)) fun x33 =>
      some x33
    else
      some (5 : Int32)
  else
    some (4 : Int32)
set_option maxHeartbeats 4000000 in
set_option maxRecDepth 100000 in
theorem r_X1_wholeFault_L48 {l : Launch} {g : zL} {p : Program} {e : Env} {s : State} {m : MethodId} {args : Array Value} {below : List Frame} {meth : Method} {c : Code} {rv : Int32} (C0 : zC p s m args meth c g cX1_wholeFault yX1_wholeFault 2 (some (.int))) (a0 : Nat) (μ17 : zM) (hU15 : zT zNN zσ1 a0 1) : ∀ (n : Nat) (y16 : Int32) (q : (Int32) ⊕ (Unit)), f_X1_wholeFault_L48 a0 μ17 n y16 = some q → (∀ t, q = Sum.inl t → t = rv) → (∀ o, q = Sum.inr o → Z p l e (zrm 2 0 0) s m args below meth c g (MQ below (zQ g zNN zσ1 (some (.int rv)) μ17) args s 0 0 (zA g)) 2 zNN 0 0 zσ1 ((fun _ => μ17) o) 93 ((fun o => [(0, .ref (zb g + a0))]) o) []) → Z p l e (zrm 2 0 0) s m args below meth c g (MQ below (zQ g zNN zσ1 (some (.int rv)) μ17) args s 0 0 (zA g)) 2 zNN 0 0 zσ1 μ17 48 [(0, .ref (zb g + a0)), (1, .int y16)] [] := by
  intro n
  induction n with
  | zero =>
    intro y16 q h kr kx
    rw [f_X1_wholeFault_L48] at h
    cases h
  | succ n ih =>
    intro y16 q h kr kx
    rw [f_X1_wholeFault_L48] at h
    refine z_iload_n C0 dX1_wholeFault_48 rfl 1 rfl ?_
    refine z_aload_n C0 dX1_wholeFault_49 rfl 0 rfl ?_
    refine z_getr C0 hU15 kf_1_20 zr_1_1 zx_1 (zs_1_1 hU15).1 dX1_wholeFault_50 ?_
    refine z_geti C0 (zs_1_1 hU15).2.1 (zs_1_1 hU15).2.2.2.1 kf_1_60 zr_6_2 dX1_wholeFault_53 ?_
    refine z_icmp_ge C0 93 dX1_wholeFault_56 (by decide) (fun c18 => ?_) (fun c18 => ?_)
    · have h := zif_t c18 h
      refine z_sub (lo1 := [(0, .ref (zb g + a0))]) [0] rfl ?_
      exact kx () (Option.some.inj h).symm
    · have h := zif_f c18 h
      refine z_aload_n C0 dX1_wholeFault_59 rfl 0 rfl ?_
      refine z_aload_n C0 dX1_wholeFault_60 rfl 0 rfl ?_
      refine z_getr C0 hU15 kf_1_20 zr_1_1 zx_1 (zs_1_1 hU15).1 dX1_wholeFault_61 ?_
      refine z_iload_n C0 dX1_wholeFault_64 rfl 1 rfl ?_
      refine z_iconst (v := (0 : Int32)) C0 dX1_wholeFault_65 (by decide) ?_
      obtain ⟨r26, e_r26, h⟩ := zbd_of h
      refine z_callV (As := [.int y16, .int (0 : Int32)]) (rest := [.ref (zb g + a0)]) C0 rfl kc_X6_number km_RX1_80 (r_X6_number (l := l) (g := g) (a0 + 2) y16 (0 : Int32) μ17 (zs_1_1 hU15).2 e_r26) (zs_1_1 hU15).2.1 (zs_1_1 hU15).2.2.2.1 rfl (by decide) rfl (Nat.le_of_ble_eq_true rfl) (Nat.le_of_ble_eq_true rfl) (Nat.le_of_ble_eq_true rfl) (Nat.le_of_ble_eq_true rfl) (Nat.le_refl _) rfl rfl dX1_wholeFault_66 ?_
      refine z_aload_n C0 dX1_wholeFault_69 rfl 0 rfl ?_
      refine z_getr C0 hU15 kf_1_20 zr_1_1 zx_1 (zs_1_1 hU15).1 dX1_wholeFault_70 ?_
      refine z_iload_n C0 dX1_wholeFault_73 rfl 1 rfl ?_
      refine z_iconst (v := (1 : Int32)) C0 dX1_wholeFault_74 (by decide) ?_
      obtain ⟨r27, e_r27, h⟩ := zbd_of h
      refine z_callV (As := [.int y16, .int (1 : Int32)]) (rest := [.int r26, .ref (zb g + a0)]) C0 rfl kc_X6_number km_RX1_80 (r_X6_number (l := l) (g := g) (a0 + 2) y16 (1 : Int32) μ17 (zs_1_1 hU15).2 e_r27) (zs_1_1 hU15).2.1 (zs_1_1 hU15).2.2.2.1 rfl (by decide) rfl (Nat.le_of_ble_eq_true rfl) (Nat.le_of_ble_eq_true rfl) (Nat.le_of_ble_eq_true rfl) (Nat.le_of_ble_eq_true rfl) (Nat.le_refl _) rfl rfl dX1_wholeFault_75 ?_
      refine z_callV (As := [.int r26, .int r27]) (rest := []) C0 rfl kc_X1_hasCell km_RX1_116 (r_X1_hasCell (l := l) (g := g) a0 r26 r27 μ17 hU15 rfl) hU15.1 hU15.2.2.1 rfl (by decide) rfl (Nat.le_of_ble_eq_true rfl) (Nat.le_of_ble_eq_true rfl) (Nat.le_of_ble_eq_true rfl) (Nat.le_of_ble_eq_true rfl) (Nat.le_refl _) rfl rfl dX1_wholeFault_78 ?_
      refine z_if_ne C0 87 dX1_wholeFault_81 (by decide) (fun c28 => ?_) (fun c28 => ?_)
      · have h := zif_t c28 h
        obtain ⟨x29, e_x29, h⟩ := zl_of h
        refine z_iinc (lo1 := [(1, .int x29), (0, .ref (zb g + a0))]) C0 dX1_wholeFault_87 1 rfl (by decide) e_x29.symm (by decide) rfl ?_
        refine z_goto C0 48 dX1_wholeFault_90 (by decide) ?_
        refine z_sub (lo1 := [(0, .ref (zb g + a0)), (1, .int x29)]) [1, 0] rfl ?_
        exact ih _ _ h kr kx
      · have h := zif_f (fun q => q c28) h
        refine z_bipush (v := (6 : Int32)) C0 dX1_wholeFault_84 (by decide) ?_
        have h := kr _ (Option.some.inj h).symm
        obtain rfl := h
        exact z_iret C0 rfl dX1_wholeFault_86
set_option maxHeartbeats 4000000 in
set_option maxRecDepth 100000 in
theorem r_X1_wholeFault {l : Launch} {g : zL} (a0 : Nat) (μ : zM) (hT0 : zT zNN zσ1 a0 1) {rv : Int32} (h : f_X1_wholeFault a0 μ = some rv) : zMet l g yX1_wholeFault cX1_wholeFault 2 (some (.int)) 2 0 0 zNN zNN zσ1 zσ1 [.ref (zb g + a0)] μ (some (.int rv)) μ := by
  refine zMet.of (by decide +kernel) (Nat.le_of_ble_eq_true rfl) ?_
  intro p e s m args below meth c C0
  refine z_loc (lo1 := [(0, .ref (zb g + a0))]) rfl ?_
  unfold f_X1_wholeFault at h
  refine z_aload_n C0 dX1_wholeFault_0 rfl 0 rfl ?_
  refine z_aload_n C0 dX1_wholeFault_1 rfl 0 rfl ?_
  refine z_aload_n C0 dX1_wholeFault_2 rfl 0 rfl ?_
  refine z_getr C0 hT0 kf_1_11 zr_1_0 zx_1 (zs_1_0 hT0).1 dX1_wholeFault_3 ?_
  refine z_iconst (v := (4 : Int32)) C0 dX1_wholeFault_6 (by decide) ?_
  refine z_iald (j := 4) C0 (zs_1_0 hT0).2 (by decide : zin (4 : Int32) 11 = true) (by decide) dX1_wholeFault_7 ?_
  refine z_aload_n C0 dX1_wholeFault_8 rfl 0 rfl ?_
  refine z_getr C0 hT0 kf_1_11 zr_1_0 zx_1 (zs_1_0 hT0).1 dX1_wholeFault_9 ?_
  refine z_iconst (v := (5 : Int32)) C0 dX1_wholeFault_12 (by decide) ?_
  refine z_iald (j := 5) C0 (zs_1_0 hT0).2 (by decide : zin (5 : Int32) 11 = true) (by decide) dX1_wholeFault_13 ?_
  refine z_callV (As := [.ref (zb g + a0), .int (μ (a0 + 1) 4), .int (μ (a0 + 1) 5)]) (rest := []) C0 rfl kc_X1_surrounds km_RX1_105 (r_X1_surrounds (l := l) (g := g) a0 a0 (μ (a0 + 1) 4) (μ (a0 + 1) 5) μ hT0 hT0 rfl) hT0.1 hT0.2.2.1 rfl (by decide) rfl (Nat.le_of_ble_eq_true rfl) (Nat.le_of_ble_eq_true rfl) (Nat.le_of_ble_eq_true rfl) (Nat.le_of_ble_eq_true rfl) (Nat.le_refl _) rfl rfl dX1_wholeFault_14 ?_
  refine z_if_ne C0 22 dX1_wholeFault_17 (by decide) (fun c1 => ?_) (fun c1 => ?_)
  · have h := zif_t c1 h
    refine z_aload_n C0 dX1_wholeFault_22 rfl 0 rfl ?_
    refine z_aload_n C0 dX1_wholeFault_23 rfl 0 rfl ?_
    refine z_getr C0 hT0 kf_1_24 zr_1_2 zx_1 (zs_1_2 hT0).1 dX1_wholeFault_24 ?_
    obtain ⟨r9, e_r9, h⟩ := zbd_of h
    refine z_callV (As := [.ref (zb g + (a0 + 4))]) (rest := []) C0 rfl kc_X1_hasNoPlaceFor km_RX1_112 (r_X1_hasNoPlaceFor (l := l) (g := g) a0 (a0 + 4) μ hT0 (zs_1_2 hT0).2 e_r9) hT0.1 hT0.2.2.1 rfl (by decide) rfl (Nat.le_of_ble_eq_true rfl) (Nat.le_of_ble_eq_true rfl) (Nat.le_of_ble_eq_true rfl) (Nat.le_of_ble_eq_true rfl) (Nat.le_refl _) rfl rfl dX1_wholeFault_27 ?_
    obtain ⟨b14, e_b14, h⟩ := zbd_of h
    refine z_joinb b14 μ 46 44 [(0, .ref (zb g + a0))] [] (fun z37 => ?_) (fun z37 => ?_) (fun k35 k36 => ?_)
    · have h := zif_t z37 h
      refine z_iconst (v := (0 : Int32)) C0 dX1_wholeFault_46 (by decide) ?_
      refine z_istore_n (lo1 := [(1, .int (0 : Int32)), (0, .ref (zb g + a0))]) C0 dX1_wholeFault_47 rfl (by decide) rfl ?_
      refine z_sub (lo1 := [(0, .ref (zb g + a0)), (1, .int (0 : Int32))]) [1, 0] rfl ?_
      obtain ⟨q34, e_q34, h⟩ := zbd_of h
      refine r_X1_wholeFault_L48 C0 a0 μ hT0 zFU (0 : Int32) q34 e_q34 ?_ ?_
      · intro t ht
        have h := zsum_l h _ ht
        exact Option.some.inj h
      · intro u_ hq
        have h := zsum_r h _ hq
        refine z_aload_n C0 dX1_wholeFault_93 rfl 0 rfl ?_
        refine z_aload_n C0 dX1_wholeFault_94 rfl 0 rfl ?_
        refine z_aload_n C0 dX1_wholeFault_95 rfl 0 rfl ?_
        refine z_getr C0 hT0 kf_1_11 zr_1_0 zx_1 (zs_1_0 hT0).1 dX1_wholeFault_96 ?_
        refine z_iconst (v := (4 : Int32)) C0 dX1_wholeFault_99 (by decide) ?_
        refine z_iald (j := 4) C0 (zs_1_0 hT0).2 (by decide : zin (4 : Int32) 11 = true) (by decide) dX1_wholeFault_100 ?_
        refine z_aload_n C0 dX1_wholeFault_101 rfl 0 rfl ?_
        refine z_getr C0 hT0 kf_1_11 zr_1_0 zx_1 (zs_1_0 hT0).1 dX1_wholeFault_102 ?_
        refine z_iconst (v := (5 : Int32)) C0 dX1_wholeFault_105 (by decide) ?_
        refine z_iald (j := 5) C0 (zs_1_0 hT0).2 (by decide : zin (5 : Int32) 11 = true) (by decide) dX1_wholeFault_106 ?_
        obtain ⟨r30, e_r30, h⟩ := zbd_of h
        refine z_callV (As := [.ref (zb g + a0), .int (μ (a0 + 1) 4), .int (μ (a0 + 1) 5)]) (rest := []) C0 rfl kc_X1_hasRockUnder km_RX1_109 (r_X1_hasRockUnder (l := l) (g := g) a0 a0 (μ (a0 + 1) 4) (μ (a0 + 1) 5) μ hT0 hT0 e_r30) hT0.1 hT0.2.2.1 rfl (by decide) rfl (Nat.le_of_ble_eq_true rfl) (Nat.le_of_ble_eq_true rfl) (Nat.le_of_ble_eq_true rfl) (Nat.le_of_ble_eq_true rfl) (Nat.le_refl _) rfl rfl dX1_wholeFault_107 ?_
        obtain ⟨x33, e_x33, h⟩ := zl_of h
        refine z_join μ 119 [] [.int x33] ?_ (fun k_J32 => ?_)
        · have h := Option.some.inj h
          obtain rfl := h
          exact z_iret C0 rfl dX1_wholeFault_119
        · have h := e_x33.symm
          refine z_if_eq C0 118 dX1_wholeFault_110 (by decide) (fun c31 => ?_) (fun c31 => ?_)
          · have h := zif_t c31 h
            refine z_iconst (v := (0 : Int32)) C0 dX1_wholeFault_118 (by decide) ?_
            refine z_sub (lo1 := []) [] rfl ?_
            obtain rfl := h
            exact k_J32
          · have h := zif_f c31 h
            refine z_bipush (v := (6 : Int32)) C0 dX1_wholeFault_113 (by decide) ?_
            refine z_goto C0 119 dX1_wholeFault_115 (by decide) ?_
            refine z_sub (lo1 := []) [] rfl ?_
            obtain rfl := h
            exact k_J32
    · have h := zif_f (fun q => Bool.noConfusion (z37.symm.trans q)) h
      refine z_iconst (v := (5 : Int32)) C0 dX1_wholeFault_44 (by decide) ?_
      have h := Option.some.inj h
      obtain rfl := h
      exact z_iret C0 rfl dX1_wholeFault_45
    · have h := e_b14
      refine z_if_ne C0 44 dX1_wholeFault_30 (by decide) (fun c10 => ?_) (fun c10 => ?_)
      · have h := zif_t c10 h
        exact k36 (Option.some.inj h).symm
      · have h := zif_f (fun q => q c10) h
        refine z_aload_n C0 dX1_wholeFault_33 rfl 0 rfl ?_
        refine z_aload_n C0 dX1_wholeFault_34 rfl 0 rfl ?_
        refine z_getr C0 hT0 kf_1_33 zr_1_5 zx_1 (zs_1_5 hT0).1 dX1_wholeFault_35 ?_
        obtain ⟨r12, e_r12, h⟩ := zbd_of h
        refine z_callV (As := [.ref (zb g + (a0 + 10))]) (rest := []) C0 rfl kc_X1_hasNoPlaceFor km_RX1_112 (r_X1_hasNoPlaceFor (l := l) (g := g) a0 (a0 + 10) μ hT0 (zs_1_5 hT0).2 e_r12) hT0.1 hT0.2.2.1 rfl (by decide) rfl (Nat.le_of_ble_eq_true rfl) (Nat.le_of_ble_eq_true rfl) (Nat.le_of_ble_eq_true rfl) (Nat.le_of_ble_eq_true rfl) (Nat.le_refl _) rfl rfl dX1_wholeFault_38 ?_
        refine z_if_eq C0 46 dX1_wholeFault_41 (by decide) (fun c13 => ?_) (fun c13 => ?_)
        · have h := zif_t c13 h
          exact k35 (Option.some.inj h).symm
        · have h := zif_f c13 h
          exact k36 (Option.some.inj h).symm
  · have h := zif_f (fun q => q c1) h
    refine z_iconst (v := (4 : Int32)) C0 dX1_wholeFault_20 (by decide) ?_
    have h := Option.some.inj h
    obtain rfl := h
    exact z_iret C0 rfl dX1_wholeFault_21
def f_X1_heaviestLine_L23 (a0 : Nat) (v1 : Int32) (y2 : Int32) (y3 : Int32) (y4 : Int32) (μ10 : zM) : Nat → Int32 → Int32 → Option (Int32)
  | 0, _, _ => none
  | n + 1, y8, y9 =>
    if (μ10 (a0 + 4) 2) ≤ y9 then
      some y8
    else
      zbd (f_X6_number (a0 + 4) y9 (0 : Int32) μ10) fun r19 =>
      zbd (f_X1_lineOf a0 r19 v1 μ10) fun r20 =>
      zbd (if ¬ r20 = y4 then
          some y8
        else
          zbd (f_X6_number (a0 + 4) y9 (1 : Int32) μ10) fun r23 =>
          zl (y8 + r23) fun x24 =>
          some x24) fun x25 =>
      zl (y9 + (1 : Int32)) fun x26 =>
      f_X1_heaviestLine_L23 a0 v1 y2 y3 y4 μ10 n x25 x26
def f_X1_heaviestLine_L7 (a0 : Nat) (v1 : Int32) (μ5 : zM) : Nat → Int32 → Int32 → Int32 → Option (Int32)
  | 0, _, _, _ => none
  | n + 1, y2, y3, y4 =>
    if (f_X1_lines a0 v1 μ5) ≤ y4 then
      some y2
    else
      zbd (f_X1_heaviestLine_L23 a0 v1 y2 y3 y4 μ5 zFU (0 : Int32) (0 : Int32)) fun x27 =>
      zl2 (if x27 ≤ y3 then
          (y2, y3)
        else
          (y4, x27)) fun x30 x31 =>
      zl (y4 + (1 : Int32)) fun x32 =>
      f_X1_heaviestLine_L7 a0 v1 μ5 n x30 x31 x32
def f_X1_heaviestLine (a0 : Nat) (v1 : Int32) (μ : zM) : Option (Int32) :=
  zbd (f_X1_heaviestLine_L7 a0 v1 μ zFU (0 : Int32) (-1 : Int32) (0 : Int32)) fun x33 =>
  some x33
set_option maxHeartbeats 4000000 in
set_option maxRecDepth 100000 in
theorem r_X1_heaviestLine_L23 {l : Launch} {g : zL} {p : Program} {e : Env} {s : State} {m : MethodId} {args : Array Value} {below : List Frame} {meth : Method} {c : Code} {Q : State → Prop} (C0 : zC p s m args meth c g cX1_heaviestLine yX1_heaviestLine 7 (some (.int))) (a0 : Nat) (v1 : Int32) (y2 : Int32) (y3 : Int32) (y4 : Int32) (μ10 : zM) (hU7 : zT zNN zσ1 a0 1) : ∀ (n : Nat) (y8 : Int32) (y9 : Int32) (x27 : Int32), f_X1_heaviestLine_L23 a0 v1 y2 y3 y4 μ10 n y8 y9 = some x27 → Z p l e (zrm 2 0 0) s m args below meth c g Q 7 zNN 0 0 zσ1 μ10 76 [(0, .ref (zb g + a0)), (1, .int v1), (2, .int y2), (3, .int y3), (4, .int y4), (5, .int x27)] [] → Z p l e (zrm 2 0 0) s m args below meth c g Q 7 zNN 0 0 zσ1 μ10 23 [(0, .ref (zb g + a0)), (1, .int v1), (2, .int y2), (3, .int y3), (4, .int y4), (5, .int y8), (6, .int y9)] [] := by
  intro n
  induction n with
  | zero =>
    intro y8 y9 x27 h kx
    rw [f_X1_heaviestLine_L23] at h
    cases h
  | succ n ih =>
    intro y8 y9 x27 h kx
    rw [f_X1_heaviestLine_L23] at h
    refine z_iload C0 dX1_heaviestLine_23 6 rfl ?_
    refine z_aload_n C0 dX1_heaviestLine_25 rfl 0 rfl ?_
    refine z_getr C0 hU7 kf_1_24 zr_1_2 zx_1 (zs_1_2 hU7).1 dX1_heaviestLine_26 ?_
    refine z_geti C0 (zs_1_2 hU7).2.1 (zs_1_2 hU7).2.2.2.1 kf_1_60 zr_6_2 dX1_heaviestLine_29 ?_
    refine z_icmp_ge C0 76 dX1_heaviestLine_32 (by decide) (fun c11 => ?_) (fun c11 => ?_)
    · have h := zif_t c11 h
      refine z_sub (lo1 := [(0, .ref (zb g + a0)), (1, .int v1), (2, .int y2), (3, .int y3), (4, .int y4), (5, .int y8)]) [0, 1, 2, 3, 4, 5] rfl ?_
      obtain rfl := (Option.some.inj h)
      exact kx
    · have h := zif_f c11 h
      refine z_aload_n C0 dX1_heaviestLine_35 rfl 0 rfl ?_
      refine z_aload_n C0 dX1_heaviestLine_36 rfl 0 rfl ?_
      refine z_getr C0 hU7 kf_1_24 zr_1_2 zx_1 (zs_1_2 hU7).1 dX1_heaviestLine_37 ?_
      refine z_iload C0 dX1_heaviestLine_40 6 rfl ?_
      refine z_iconst (v := (0 : Int32)) C0 dX1_heaviestLine_42 (by decide) ?_
      obtain ⟨r19, e_r19, h⟩ := zbd_of h
      refine z_callV (As := [.int y9, .int (0 : Int32)]) (rest := [.ref (zb g + a0)]) C0 rfl kc_X6_number km_RX1_80 (r_X6_number (l := l) (g := g) (a0 + 4) y9 (0 : Int32) μ10 (zs_1_2 hU7).2 e_r19) (zs_1_2 hU7).2.1 (zs_1_2 hU7).2.2.2.1 rfl (by decide) rfl (Nat.le_of_ble_eq_true rfl) (Nat.le_of_ble_eq_true rfl) (Nat.le_of_ble_eq_true rfl) (Nat.le_of_ble_eq_true rfl) (Nat.le_refl _) rfl rfl dX1_heaviestLine_43 ?_
      refine z_iload_n C0 dX1_heaviestLine_46 rfl 1 rfl ?_
      obtain ⟨r20, e_r20, h⟩ := zbd_of h
      refine z_callV (As := [.int r19, .int v1]) (rest := []) C0 rfl kc_X1_lineOf km_RX1_124 (r_X1_lineOf (l := l) (g := g) a0 r19 v1 μ10 hU7 e_r20) hU7.1 hU7.2.2.1 rfl (by decide) rfl (Nat.le_of_ble_eq_true rfl) (Nat.le_of_ble_eq_true rfl) (Nat.le_of_ble_eq_true rfl) (Nat.le_of_ble_eq_true rfl) (Nat.le_refl _) rfl rfl dX1_heaviestLine_47 ?_
      refine z_iload C0 dX1_heaviestLine_50 4 rfl ?_
      obtain ⟨x25, e_x25, h⟩ := zbd_of h
      refine z_join μ10 70 [(0, .ref (zb g + a0)), (1, .int v1), (2, .int y2), (3, .int y3), (4, .int y4), (5, .int x25), (6, .int y9)] [] ?_ (fun k_J22 => ?_)
      · obtain ⟨x26, e_x26, h⟩ := zl_of h
        refine z_iinc (lo1 := [(6, .int x26), (0, .ref (zb g + a0)), (1, .int v1), (2, .int y2), (3, .int y3), (4, .int y4), (5, .int x25)]) C0 dX1_heaviestLine_70 6 rfl (by decide) e_x26.symm (by decide) rfl ?_
        refine z_goto C0 23 dX1_heaviestLine_73 (by decide) ?_
        refine z_sub (lo1 := [(0, .ref (zb g + a0)), (1, .int v1), (2, .int y2), (3, .int y3), (4, .int y4), (5, .int x25), (6, .int x26)]) [1, 2, 3, 4, 5, 6, 0] rfl ?_
        exact ih _ _ _ h kx
      · have h := e_x25
        refine z_icmp_ne C0 70 dX1_heaviestLine_52 (by decide) (fun c21 => ?_) (fun c21 => ?_)
        · have h := zif_t c21 h
          obtain rfl := (Option.some.inj h)
          exact k_J22
        · have h := zif_f (fun q => q c21) h
          refine z_iload C0 dX1_heaviestLine_55 5 rfl ?_
          refine z_aload_n C0 dX1_heaviestLine_57 rfl 0 rfl ?_
          refine z_getr C0 hU7 kf_1_24 zr_1_2 zx_1 (zs_1_2 hU7).1 dX1_heaviestLine_58 ?_
          refine z_iload C0 dX1_heaviestLine_61 6 rfl ?_
          refine z_iconst (v := (1 : Int32)) C0 dX1_heaviestLine_63 (by decide) ?_
          obtain ⟨r23, e_r23, h⟩ := zbd_of h
          refine z_callV (As := [.int y9, .int (1 : Int32)]) (rest := [.int y8]) C0 rfl kc_X6_number km_RX1_80 (r_X6_number (l := l) (g := g) (a0 + 4) y9 (1 : Int32) μ10 (zs_1_2 hU7).2 e_r23) (zs_1_2 hU7).2.1 (zs_1_2 hU7).2.2.2.1 rfl (by decide) rfl (Nat.le_of_ble_eq_true rfl) (Nat.le_of_ble_eq_true rfl) (Nat.le_of_ble_eq_true rfl) (Nat.le_of_ble_eq_true rfl) (Nat.le_refl _) rfl rfl dX1_heaviestLine_64 ?_
          refine z_iadd C0 dX1_heaviestLine_67 ?_
          obtain ⟨x24, e_x24, h⟩ := zl_of h
          refine z_nm e_x24 ?_
          refine z_istore (lo1 := [(5, .int x24), (0, .ref (zb g + a0)), (1, .int v1), (2, .int y2), (3, .int y3), (4, .int y4), (6, .int y9)]) C0 dX1_heaviestLine_68 (by decide) rfl ?_
          refine z_sub (lo1 := [(0, .ref (zb g + a0)), (1, .int v1), (2, .int y2), (3, .int y3), (4, .int y4), (5, .int x24), (6, .int y9)]) [1, 2, 3, 4, 5, 0, 6] rfl ?_
          obtain rfl := (Option.some.inj h)
          exact k_J22
set_option maxHeartbeats 4000000 in
set_option maxRecDepth 100000 in
theorem r_X1_heaviestLine_L7 {l : Launch} {g : zL} {p : Program} {e : Env} {s : State} {m : MethodId} {args : Array Value} {below : List Frame} {meth : Method} {c : Code} {Q : State → Prop} (C0 : zC p s m args meth c g cX1_heaviestLine yX1_heaviestLine 7 (some (.int))) (a0 : Nat) (v1 : Int32) (μ5 : zM) (hU1 : zT zNN zσ1 a0 1) : ∀ (n : Nat) (y2 : Int32) (y3 : Int32) (y4 : Int32) (x33 : Int32), f_X1_heaviestLine_L7 a0 v1 μ5 n y2 y3 y4 = some x33 → Z p l e (zrm 2 0 0) s m args below meth c g Q 7 zNN 0 0 zσ1 μ5 94 [(2, .int x33)] [] → Z p l e (zrm 2 0 0) s m args below meth c g Q 7 zNN 0 0 zσ1 μ5 7 [(0, .ref (zb g + a0)), (1, .int v1), (2, .int y2), (3, .int y3), (4, .int y4)] [] := by
  intro n
  induction n with
  | zero =>
    intro y2 y3 y4 x33 h kx
    rw [f_X1_heaviestLine_L7] at h
    cases h
  | succ n ih =>
    intro y2 y3 y4 x33 h kx
    rw [f_X1_heaviestLine_L7] at h
    refine z_iload C0 dX1_heaviestLine_7 4 rfl ?_
    refine z_aload_n C0 dX1_heaviestLine_9 rfl 0 rfl ?_
    refine z_iload_n C0 dX1_heaviestLine_10 rfl 1 rfl ?_
    refine z_callV (As := [.int v1]) (rest := [.int y4]) C0 rfl kc_X1_lines km_RX1_93 (r_X1_lines (l := l) (g := g) a0 v1 μ5 hU1 rfl) hU1.1 hU1.2.2.1 rfl (by decide) rfl (Nat.le_of_ble_eq_true rfl) (Nat.le_of_ble_eq_true rfl) (Nat.le_of_ble_eq_true rfl) (Nat.le_of_ble_eq_true rfl) (Nat.le_refl _) rfl rfl dX1_heaviestLine_11 ?_
    refine z_icmp_ge C0 94 dX1_heaviestLine_14 (by decide) (fun c6 => ?_) (fun c6 => ?_)
    · have h := zif_t c6 h
      refine z_sub (lo1 := [(2, .int y2)]) [2] rfl ?_
      obtain rfl := (Option.some.inj h)
      exact kx
    · have h := zif_f c6 h
      refine z_iconst (v := (0 : Int32)) C0 dX1_heaviestLine_17 (by decide) ?_
      refine z_istore (lo1 := [(5, .int (0 : Int32)), (0, .ref (zb g + a0)), (1, .int v1), (2, .int y2), (3, .int y3), (4, .int y4)]) C0 dX1_heaviestLine_18 (by decide) rfl ?_
      refine z_iconst (v := (0 : Int32)) C0 dX1_heaviestLine_20 (by decide) ?_
      refine z_istore (lo1 := [(6, .int (0 : Int32)), (5, .int (0 : Int32)), (0, .ref (zb g + a0)), (1, .int v1), (2, .int y2), (3, .int y3), (4, .int y4)]) C0 dX1_heaviestLine_21 (by decide) rfl ?_
      refine z_sub (lo1 := [(0, .ref (zb g + a0)), (1, .int v1), (2, .int y2), (3, .int y3), (4, .int y4), (5, .int (0 : Int32)), (6, .int (0 : Int32))]) [2, 3, 4, 5, 6, 1, 0] rfl ?_
      obtain ⟨x27, e_x27, h⟩ := zbd_of h
      refine r_X1_heaviestLine_L23 C0 a0 v1 y2 y3 y4 μ5 hU1 zFU (0 : Int32) (0 : Int32) x27 e_x27 ?_
      refine z_iload C0 dX1_heaviestLine_76 5 rfl ?_
      refine z_iload_n C0 dX1_heaviestLine_78 rfl 3 rfl ?_
      obtain ⟨x30, x31, e_x30, h⟩ := zl2_of h
      refine z_join μ5 88 [(0, .ref (zb g + a0)), (1, .int v1), (2, .int x30), (3, .int x31), (4, .int y4)] [] ?_ (fun k_J29 => ?_)
      · obtain ⟨x32, e_x32, h⟩ := zl_of h
        refine z_iinc (lo1 := [(4, .int x32), (0, .ref (zb g + a0)), (1, .int v1), (2, .int x30), (3, .int x31)]) C0 dX1_heaviestLine_88 4 rfl (by decide) e_x32.symm (by decide) rfl ?_
        refine z_goto C0 7 dX1_heaviestLine_91 (by decide) ?_
        refine z_sub (lo1 := [(0, .ref (zb g + a0)), (1, .int v1), (2, .int x30), (3, .int x31), (4, .int x32)]) [1, 2, 3, 4, 0] rfl ?_
        exact ih _ _ _ _ h kx
      · have h := e_x30
        refine z_icmp_le C0 88 dX1_heaviestLine_79 (by decide) (fun c28 => ?_) (fun c28 => ?_)
        · have h := zif_t c28 h
          refine z_sub (lo1 := [(0, .ref (zb g + a0)), (1, .int v1), (2, .int y2), (3, .int y3), (4, .int y4)]) [0, 1, 2, 3, 4] rfl ?_
          obtain ⟨rfl, rfl⟩ := Prod.mk.inj h
          exact k_J29
        · have h := zif_f c28 h
          refine z_iload C0 dX1_heaviestLine_82 5 rfl ?_
          refine z_istore_n (lo1 := [(3, .int x27), (0, .ref (zb g + a0)), (1, .int v1), (2, .int y2), (4, .int y4), (5, .int x27)]) C0 dX1_heaviestLine_84 rfl (by decide) rfl ?_
          refine z_iload C0 dX1_heaviestLine_85 4 rfl ?_
          refine z_istore_n (lo1 := [(2, .int y4), (3, .int x27), (0, .ref (zb g + a0)), (1, .int v1), (4, .int y4), (5, .int x27)]) C0 dX1_heaviestLine_87 rfl (by decide) rfl ?_
          refine z_sub (lo1 := [(0, .ref (zb g + a0)), (1, .int v1), (2, .int y4), (3, .int x27), (4, .int y4)]) [2, 3, 0, 1, 4] rfl ?_
          obtain ⟨rfl, rfl⟩ := Prod.mk.inj h
          exact k_J29
set_option maxHeartbeats 4000000 in
set_option maxRecDepth 100000 in
theorem r_X1_heaviestLine {l : Launch} {g : zL} (a0 : Nat) (v1 : Int32) (μ : zM) (hT0 : zT zNN zσ1 a0 1) {rv : Int32} (h : f_X1_heaviestLine a0 v1 μ = some rv) : zMet l g yX1_heaviestLine cX1_heaviestLine 7 (some (.int)) 2 0 0 zNN zNN zσ1 zσ1 [.ref (zb g + a0), .int v1] μ (some (.int rv)) μ := by
  refine zMet.of (by decide +kernel) (Nat.le_of_ble_eq_true rfl) ?_
  intro p e s m args below meth c C0
  refine z_loc (lo1 := [(0, .ref (zb g + a0)), (1, .int v1)]) rfl ?_
  unfold f_X1_heaviestLine at h
  refine z_iconst (v := (0 : Int32)) C0 dX1_heaviestLine_0 (by decide) ?_
  refine z_istore_n (lo1 := [(2, .int (0 : Int32)), (0, .ref (zb g + a0)), (1, .int v1)]) C0 dX1_heaviestLine_1 rfl (by decide) rfl ?_
  refine z_iconst (v := (-1 : Int32)) C0 dX1_heaviestLine_2 (by decide) ?_
  refine z_istore_n (lo1 := [(3, .int (-1 : Int32)), (2, .int (0 : Int32)), (0, .ref (zb g + a0)), (1, .int v1)]) C0 dX1_heaviestLine_3 rfl (by decide) rfl ?_
  refine z_iconst (v := (0 : Int32)) C0 dX1_heaviestLine_4 (by decide) ?_
  refine z_istore (lo1 := [(4, .int (0 : Int32)), (3, .int (-1 : Int32)), (2, .int (0 : Int32)), (0, .ref (zb g + a0)), (1, .int v1)]) C0 dX1_heaviestLine_5 (by decide) rfl ?_
  refine z_sub (lo1 := [(0, .ref (zb g + a0)), (1, .int v1), (2, .int (0 : Int32)), (3, .int (-1 : Int32)), (4, .int (0 : Int32))]) [3, 4, 2, 1, 0] rfl ?_
  obtain ⟨x33, e_x33, h⟩ := zbd_of h
  refine r_X1_heaviestLine_L7 C0 a0 v1 μ hT0 zFU (0 : Int32) (-1 : Int32) (0 : Int32) x33 e_x33 ?_
  refine z_iload_n C0 dX1_heaviestLine_94 rfl 0 rfl ?_
  have h := Option.some.inj h
  obtain rfl := h
  exact z_iret C0 rfl dX1_heaviestLine_95
def f_X1_tiltWith (a0 : Nat) (v1 : Int32) (v2 : Int32) (μ : zM) : Option (Int32) :=
  zbd (f_X1_arm a0 v2 (0 : Int32) μ) fun r1 =>
  zbd (f_X1_arm a0 v2 (1 : Int32) μ) fun r2 =>
  some ((zabs ((μ (a0 + 13) 0) + (v1 * r1))) + (zabs ((μ (a0 + 13) 1) + (v1 * r2))))
set_option maxHeartbeats 4000000 in
set_option maxRecDepth 100000 in
theorem r_X1_tiltWith {l : Launch} {g : zL} (a0 : Nat) (v1 : Int32) (v2 : Int32) (μ : zM) (hT0 : zT zNN zσ1 a0 1) {rv : Int32} (h : f_X1_tiltWith a0 v1 v2 μ = some rv) : zMet l g yX1_tiltWith cX1_tiltWith 3 (some (.int)) 1 0 0 zNN zNN zσ1 zσ1 [.ref (zb g + a0), .int v1, .int v2] μ (some (.int rv)) μ := by
  refine zMet.of (by decide +kernel) (Nat.le_of_ble_eq_true rfl) ?_
  intro p e s m args below meth c C0
  refine z_loc (lo1 := [(0, .ref (zb g + a0)), (1, .int v1), (2, .int v2)]) rfl ?_
  unfold f_X1_tiltWith at h
  refine z_aload_n C0 dX1_tiltWith_0 rfl 0 rfl ?_
  refine z_getr C0 hT0 kf_1_39 zr_1_10 zx_1 (zs_1_10 hT0).1 dX1_tiltWith_1 ?_
  refine z_iconst (v := (0 : Int32)) C0 dX1_tiltWith_4 (by decide) ?_
  refine z_iald (j := 0) C0 (zs_1_10 hT0).2 (by decide : zin (0 : Int32) 2 = true) (by decide) dX1_tiltWith_5 ?_
  refine z_iload_n C0 dX1_tiltWith_6 rfl 1 rfl ?_
  refine z_aload_n C0 dX1_tiltWith_7 rfl 0 rfl ?_
  refine z_iload_n C0 dX1_tiltWith_8 rfl 2 rfl ?_
  refine z_iconst (v := (0 : Int32)) C0 dX1_tiltWith_9 (by decide) ?_
  obtain ⟨r1, e_r1, h⟩ := zbd_of h
  refine z_callV (As := [.int v2, .int (0 : Int32)]) (rest := [.int v1, .int (μ (a0 + 13) 0)]) C0 rfl kc_X1_arm km_RX1_83 (r_X1_arm (l := l) (g := g) a0 v2 (0 : Int32) μ hT0 e_r1) hT0.1 hT0.2.2.1 rfl (by decide) rfl (Nat.le_of_ble_eq_true rfl) (Nat.le_of_ble_eq_true rfl) (Nat.le_of_ble_eq_true rfl) (Nat.le_of_ble_eq_true rfl) (Nat.le_refl _) rfl rfl dX1_tiltWith_10 ?_
  refine z_imul C0 dX1_tiltWith_13 ?_
  refine z_iadd C0 dX1_tiltWith_14 ?_
  refine z_mabs C0 rfl kM_RX1_97 kM_abs (Nat.le_of_ble_eq_true rfl) (Nat.zero_le _) (Nat.zero_le _) dX1_tiltWith_15 ?_
  refine z_aload_n C0 dX1_tiltWith_18 rfl 0 rfl ?_
  refine z_getr C0 hT0 kf_1_39 zr_1_10 zx_1 (zs_1_10 hT0).1 dX1_tiltWith_19 ?_
  refine z_iconst (v := (1 : Int32)) C0 dX1_tiltWith_22 (by decide) ?_
  refine z_iald (j := 1) C0 (zs_1_10 hT0).2 (by decide : zin (1 : Int32) 2 = true) (by decide) dX1_tiltWith_23 ?_
  refine z_iload_n C0 dX1_tiltWith_24 rfl 1 rfl ?_
  refine z_aload_n C0 dX1_tiltWith_25 rfl 0 rfl ?_
  refine z_iload_n C0 dX1_tiltWith_26 rfl 2 rfl ?_
  refine z_iconst (v := (1 : Int32)) C0 dX1_tiltWith_27 (by decide) ?_
  obtain ⟨r2, e_r2, h⟩ := zbd_of h
  refine z_callV (As := [.int v2, .int (1 : Int32)]) (rest := [.int v1, .int (μ (a0 + 13) 1), .int (zabs ((μ (a0 + 13) 0) + (v1 * r1)))]) C0 rfl kc_X1_arm km_RX1_83 (r_X1_arm (l := l) (g := g) a0 v2 (1 : Int32) μ hT0 e_r2) hT0.1 hT0.2.2.1 rfl (by decide) rfl (Nat.le_of_ble_eq_true rfl) (Nat.le_of_ble_eq_true rfl) (Nat.le_of_ble_eq_true rfl) (Nat.le_of_ble_eq_true rfl) (Nat.le_refl _) rfl rfl dX1_tiltWith_28 ?_
  refine z_imul C0 dX1_tiltWith_31 ?_
  refine z_iadd C0 dX1_tiltWith_32 ?_
  refine z_mabs C0 rfl kM_RX1_97 kM_abs (Nat.le_of_ble_eq_true rfl) (Nat.zero_le _) (Nat.zero_le _) dX1_tiltWith_33 ?_
  refine z_iadd C0 dX1_tiltWith_36 ?_
  have h := Option.some.inj h
  obtain rfl := h
  exact z_iret C0 rfl dX1_tiltWith_37
def f_X1_keel_L7 (a0 : Nat) (μ5 : zM) : Nat → Int32 → Int32 → Int32 → Option (Int32)
  | 0, _, _, _ => none
  | n + 1, y2, y3, y4 =>
    if (μ5 (a0 + 4) 2) ≤ y4 then
      some y2
    else
      zbd (f_X6_number (a0 + 4) y4 (1 : Int32) μ5) fun r7 =>
      zbd (f_X6_number (a0 + 4) y4 (0 : Int32) μ5) fun r8 =>
      zbd (f_X1_tiltWith a0 (-r7) r8 μ5) fun r9 =>
      zl2 (if y3 ≤ r9 then
          (y2, y3)
        else
          (y4, r9)) fun x12 x13 =>
      zl (y4 + (1 : Int32)) fun x14 =>
      f_X1_keel_L7 a0 μ5 n x12 x13 x14
def f_X1_keel (a0 : Nat) (μ : zM) : Option (Int32) :=
  zbd (f_X1_keel_L7 a0 μ zFU (-1 : Int32) (1000000 : Int32) (0 : Int32)) fun x15 =>
  some x15
set_option maxHeartbeats 4000000 in
set_option maxRecDepth 100000 in
theorem r_X1_keel_L7 {l : Launch} {g : zL} {p : Program} {e : Env} {s : State} {m : MethodId} {args : Array Value} {below : List Frame} {meth : Method} {c : Code} {Q : State → Prop} (C0 : zC p s m args meth c g cX1_keel yX1_keel 5 (some (.int))) (a0 : Nat) (μ5 : zM) (hU1 : zT zNN zσ1 a0 1) : ∀ (n : Nat) (y2 : Int32) (y3 : Int32) (y4 : Int32) (x15 : Int32), f_X1_keel_L7 a0 μ5 n y2 y3 y4 = some x15 → Z p l e (zrm 2 0 0) s m args below meth c g Q 5 zNN 0 0 zσ1 μ5 60 [(1, .int x15)] [] → Z p l e (zrm 2 0 0) s m args below meth c g Q 5 zNN 0 0 zσ1 μ5 7 [(0, .ref (zb g + a0)), (1, .int y2), (2, .int y3), (3, .int y4)] [] := by
  intro n
  induction n with
  | zero =>
    intro y2 y3 y4 x15 h kx
    rw [f_X1_keel_L7] at h
    cases h
  | succ n ih =>
    intro y2 y3 y4 x15 h kx
    rw [f_X1_keel_L7] at h
    refine z_iload_n C0 dX1_keel_7 rfl 3 rfl ?_
    refine z_aload_n C0 dX1_keel_8 rfl 0 rfl ?_
    refine z_getr C0 hU1 kf_1_24 zr_1_2 zx_1 (zs_1_2 hU1).1 dX1_keel_9 ?_
    refine z_geti C0 (zs_1_2 hU1).2.1 (zs_1_2 hU1).2.2.2.1 kf_1_60 zr_6_2 dX1_keel_12 ?_
    refine z_icmp_ge C0 60 dX1_keel_15 (by decide) (fun c6 => ?_) (fun c6 => ?_)
    · have h := zif_t c6 h
      refine z_sub (lo1 := [(1, .int y2)]) [1] rfl ?_
      obtain rfl := (Option.some.inj h)
      exact kx
    · have h := zif_f c6 h
      refine z_aload_n C0 dX1_keel_18 rfl 0 rfl ?_
      refine z_aload_n C0 dX1_keel_19 rfl 0 rfl ?_
      refine z_getr C0 hU1 kf_1_24 zr_1_2 zx_1 (zs_1_2 hU1).1 dX1_keel_20 ?_
      refine z_iload_n C0 dX1_keel_23 rfl 3 rfl ?_
      refine z_iconst (v := (1 : Int32)) C0 dX1_keel_24 (by decide) ?_
      obtain ⟨r7, e_r7, h⟩ := zbd_of h
      refine z_callV (As := [.int y4, .int (1 : Int32)]) (rest := [.ref (zb g + a0)]) C0 rfl kc_X6_number km_RX1_80 (r_X6_number (l := l) (g := g) (a0 + 4) y4 (1 : Int32) μ5 (zs_1_2 hU1).2 e_r7) (zs_1_2 hU1).2.1 (zs_1_2 hU1).2.2.2.1 rfl (by decide) rfl (Nat.le_of_ble_eq_true rfl) (Nat.le_of_ble_eq_true rfl) (Nat.le_of_ble_eq_true rfl) (Nat.le_of_ble_eq_true rfl) (Nat.le_refl _) rfl rfl dX1_keel_25 ?_
      refine z_ineg C0 dX1_keel_28 ?_
      refine z_aload_n C0 dX1_keel_29 rfl 0 rfl ?_
      refine z_getr C0 hU1 kf_1_24 zr_1_2 zx_1 (zs_1_2 hU1).1 dX1_keel_30 ?_
      refine z_iload_n C0 dX1_keel_33 rfl 3 rfl ?_
      refine z_iconst (v := (0 : Int32)) C0 dX1_keel_34 (by decide) ?_
      obtain ⟨r8, e_r8, h⟩ := zbd_of h
      refine z_callV (As := [.int y4, .int (0 : Int32)]) (rest := [.int (-r7), .ref (zb g + a0)]) C0 rfl kc_X6_number km_RX1_80 (r_X6_number (l := l) (g := g) (a0 + 4) y4 (0 : Int32) μ5 (zs_1_2 hU1).2 e_r8) (zs_1_2 hU1).2.1 (zs_1_2 hU1).2.2.2.1 rfl (by decide) rfl (Nat.le_of_ble_eq_true rfl) (Nat.le_of_ble_eq_true rfl) (Nat.le_of_ble_eq_true rfl) (Nat.le_of_ble_eq_true rfl) (Nat.le_refl _) rfl rfl dX1_keel_35 ?_
      obtain ⟨r9, e_r9, h⟩ := zbd_of h
      refine z_callV (As := [.int (-r7), .int r8]) (rest := []) C0 rfl kc_X1_tiltWith km_RX1_128 (r_X1_tiltWith (l := l) (g := g) a0 (-r7) r8 μ5 hU1 e_r9) hU1.1 hU1.2.2.1 rfl (by decide) rfl (Nat.le_of_ble_eq_true rfl) (Nat.le_of_ble_eq_true rfl) (Nat.le_of_ble_eq_true rfl) (Nat.le_of_ble_eq_true rfl) (Nat.le_refl _) rfl rfl dX1_keel_38 ?_
      refine z_istore (lo1 := [(4, .int r9), (0, .ref (zb g + a0)), (1, .int y2), (2, .int y3), (3, .int y4)]) C0 dX1_keel_41 (by decide) rfl ?_
      refine z_iload C0 dX1_keel_43 0 rfl ?_
      refine z_iload_n C0 dX1_keel_45 rfl 3 rfl ?_
      obtain ⟨x12, x13, e_x12, h⟩ := zl2_of h
      refine z_join μ5 54 [(0, .ref (zb g + a0)), (1, .int x12), (2, .int x13), (3, .int y4)] [] ?_ (fun k_J11 => ?_)
      · obtain ⟨x14, e_x14, h⟩ := zl_of h
        refine z_iinc (lo1 := [(3, .int x14), (0, .ref (zb g + a0)), (1, .int x12), (2, .int x13)]) C0 dX1_keel_54 3 rfl (by decide) e_x14.symm (by decide) rfl ?_
        refine z_goto C0 7 dX1_keel_57 (by decide) ?_
        refine z_sub (lo1 := [(0, .ref (zb g + a0)), (1, .int x12), (2, .int x13), (3, .int x14)]) [1, 2, 3, 0] rfl ?_
        exact ih _ _ _ _ h kx
      · have h := e_x12
        refine z_icmp_ge C0 54 dX1_keel_46 (by decide) (fun c10 => ?_) (fun c10 => ?_)
        · have h := zif_t c10 h
          refine z_sub (lo1 := [(0, .ref (zb g + a0)), (1, .int y2), (2, .int y3), (3, .int y4)]) [1, 2, 3, 4] rfl ?_
          obtain ⟨rfl, rfl⟩ := Prod.mk.inj h
          exact k_J11
        · have h := zif_f c10 h
          refine z_iload C0 dX1_keel_49 0 rfl ?_
          refine z_istore_n (lo1 := [(2, .int r9), (4, .int r9), (0, .ref (zb g + a0)), (1, .int y2), (3, .int y4)]) C0 dX1_keel_51 rfl (by decide) rfl ?_
          refine z_iload_n C0 dX1_keel_52 rfl 4 rfl ?_
          refine z_istore_n (lo1 := [(1, .int y4), (2, .int r9), (4, .int r9), (0, .ref (zb g + a0)), (3, .int y4)]) C0 dX1_keel_53 rfl (by decide) rfl ?_
          refine z_sub (lo1 := [(0, .ref (zb g + a0)), (1, .int y4), (2, .int r9), (3, .int y4)]) [3, 0, 1, 4] rfl ?_
          obtain ⟨rfl, rfl⟩ := Prod.mk.inj h
          exact k_J11
set_option maxHeartbeats 4000000 in
set_option maxRecDepth 100000 in
theorem r_X1_keel {l : Launch} {g : zL} (a0 : Nat) (μ : zM) (hT0 : zT zNN zσ1 a0 1) {rv : Int32} (h : f_X1_keel a0 μ = some rv) : zMet l g yX1_keel cX1_keel 5 (some (.int)) 2 0 0 zNN zNN zσ1 zσ1 [.ref (zb g + a0)] μ (some (.int rv)) μ := by
  refine zMet.of (by decide +kernel) (Nat.le_of_ble_eq_true rfl) ?_
  intro p e s m args below meth c C0
  refine z_loc (lo1 := [(0, .ref (zb g + a0))]) rfl ?_
  unfold f_X1_keel at h
  refine z_iconst (v := (-1 : Int32)) C0 dX1_keel_0 (by decide) ?_
  refine z_istore_n (lo1 := [(1, .int (-1 : Int32)), (0, .ref (zb g + a0))]) C0 dX1_keel_1 rfl (by decide) rfl ?_
  refine z_ldc C0 dX1_keel_2 kk_RX1_127 ?_
  refine z_istore_n (lo1 := [(2, .int (1000000 : Int32)), (1, .int (-1 : Int32)), (0, .ref (zb g + a0))]) C0 dX1_keel_4 rfl (by decide) rfl ?_
  refine z_iconst (v := (0 : Int32)) C0 dX1_keel_5 (by decide) ?_
  refine z_istore_n (lo1 := [(3, .int (0 : Int32)), (2, .int (1000000 : Int32)), (1, .int (-1 : Int32)), (0, .ref (zb g + a0))]) C0 dX1_keel_6 rfl (by decide) rfl ?_
  refine z_sub (lo1 := [(0, .ref (zb g + a0)), (1, .int (-1 : Int32)), (2, .int (1000000 : Int32)), (3, .int (0 : Int32))]) [3, 2, 1, 0] rfl ?_
  obtain ⟨x15, e_x15, h⟩ := zbd_of h
  refine r_X1_keel_L7 C0 a0 μ hT0 zFU (-1 : Int32) (1000000 : Int32) (0 : Int32) x15 e_x15 ?_
  refine z_iload_n C0 dX1_keel_60 rfl 0 rfl ?_
  have h := Option.some.inj h
  obtain rfl := h
  exact z_iret C0 rfl dX1_keel_61
def f_X1_trimOf_L19 (a0 : Nat) (r1 : Int32) (μ6 : zM) : Nat → Int32 → Int32 → Int32 → Option (Int32)
  | 0, _, _, _ => none
  | n + 1, y3, y4, y5 =>
    if (f_X1_places a0 μ6) ≤ y5 then
      some y3
    else
      zbd (f_X1_tiltWith a0 r1 y5 μ6) fun r8 =>
      zl2 (if y4 ≤ r8 then
          (y3, y4)
        else
          (y5, r8)) fun x11 x12 =>
      zl (y5 + (1 : Int32)) fun x13 =>
      f_X1_trimOf_L19 a0 r1 μ6 n x11 x12 x13
def f_X1_trimOf (a0 : Nat) (v1 : Int32) (μ : zM) : Option (Int32) :=
  zbd (f_X6_number (a0 + 8) v1 (0 : Int32) μ) fun r1 =>
  zbd (f_X1_trimOf_L19 a0 r1 μ zFU (0 : Int32) (1000000 : Int32) (0 : Int32)) fun x14 =>
  some x14
set_option maxHeartbeats 4000000 in
set_option maxRecDepth 100000 in
theorem r_X1_trimOf_L19 {l : Launch} {g : zL} {p : Program} {e : Env} {s : State} {m : MethodId} {args : Array Value} {below : List Frame} {meth : Method} {c : Code} {Q : State → Prop} (C0 : zC p s m args meth c g cX1_trimOf yX1_trimOf 7 (some (.int))) (a0 : Nat) (r1 : Int32) (μ6 : zM) (hU2 : zT zNN zσ1 a0 1) : ∀ (n : Nat) (y3 : Int32) (y4 : Int32) (y5 : Int32) (x14 : Int32), f_X1_trimOf_L19 a0 r1 μ6 n y3 y4 y5 = some x14 → Z p l e (zrm 2 0 0) s m args below meth c g Q 7 zNN 0 0 zσ1 μ6 57 [(3, .int x14)] [] → Z p l e (zrm 2 0 0) s m args below meth c g Q 7 zNN 0 0 zσ1 μ6 19 [(0, .ref (zb g + a0)), (2, .int r1), (3, .int y3), (4, .int y4), (5, .int y5)] [] := by
  intro n
  induction n with
  | zero =>
    intro y3 y4 y5 x14 h kx
    rw [f_X1_trimOf_L19] at h
    cases h
  | succ n ih =>
    intro y3 y4 y5 x14 h kx
    rw [f_X1_trimOf_L19] at h
    refine z_iload C0 dX1_trimOf_19 4 rfl ?_
    refine z_aload_n C0 dX1_trimOf_21 rfl 0 rfl ?_
    refine z_callV (As := []) (rest := [.int y5]) C0 rfl kc_X1_places km_RX1_120 (r_X1_places (l := l) (g := g) a0 μ6 hU2 rfl) hU2.1 hU2.2.2.1 rfl (by decide) rfl (Nat.le_of_ble_eq_true rfl) (Nat.le_of_ble_eq_true rfl) (Nat.le_of_ble_eq_true rfl) (Nat.le_of_ble_eq_true rfl) (Nat.le_refl _) rfl rfl dX1_trimOf_22 ?_
    refine z_icmp_ge C0 57 dX1_trimOf_25 (by decide) (fun c7 => ?_) (fun c7 => ?_)
    · have h := zif_t c7 h
      refine z_sub (lo1 := [(3, .int y3)]) [2] rfl ?_
      obtain rfl := (Option.some.inj h)
      exact kx
    · have h := zif_f c7 h
      refine z_aload_n C0 dX1_trimOf_28 rfl 0 rfl ?_
      refine z_iload_n C0 dX1_trimOf_29 rfl 1 rfl ?_
      refine z_iload C0 dX1_trimOf_30 4 rfl ?_
      obtain ⟨r8, e_r8, h⟩ := zbd_of h
      refine z_callV (As := [.int r1, .int y5]) (rest := []) C0 rfl kc_X1_tiltWith km_RX1_128 (r_X1_tiltWith (l := l) (g := g) a0 r1 y5 μ6 hU2 e_r8) hU2.1 hU2.2.2.1 rfl (by decide) rfl (Nat.le_of_ble_eq_true rfl) (Nat.le_of_ble_eq_true rfl) (Nat.le_of_ble_eq_true rfl) (Nat.le_of_ble_eq_true rfl) (Nat.le_refl _) rfl rfl dX1_trimOf_32 ?_
      refine z_istore (lo1 := [(6, .int r8), (0, .ref (zb g + a0)), (2, .int r1), (3, .int y3), (4, .int y4), (5, .int y5)]) C0 dX1_trimOf_35 (by decide) rfl ?_
      refine z_iload C0 dX1_trimOf_37 0 rfl ?_
      refine z_iload C0 dX1_trimOf_39 4 rfl ?_
      obtain ⟨x11, x12, e_x11, h⟩ := zl2_of h
      refine z_join μ6 51 [(0, .ref (zb g + a0)), (2, .int r1), (3, .int x11), (4, .int x12), (5, .int y5)] [] ?_ (fun k_J10 => ?_)
      · obtain ⟨x13, e_x13, h⟩ := zl_of h
        refine z_iinc (lo1 := [(5, .int x13), (0, .ref (zb g + a0)), (2, .int r1), (3, .int x11), (4, .int x12)]) C0 dX1_trimOf_51 4 rfl (by decide) e_x13.symm (by decide) rfl ?_
        refine z_goto C0 19 dX1_trimOf_54 (by decide) ?_
        refine z_sub (lo1 := [(0, .ref (zb g + a0)), (2, .int r1), (3, .int x11), (4, .int x12), (5, .int x13)]) [1, 2, 3, 4, 0] rfl ?_
        exact ih _ _ _ _ h kx
      · have h := e_x11
        refine z_icmp_ge C0 51 dX1_trimOf_41 (by decide) (fun c9 => ?_) (fun c9 => ?_)
        · have h := zif_t c9 h
          refine z_sub (lo1 := [(0, .ref (zb g + a0)), (2, .int r1), (3, .int y3), (4, .int y4), (5, .int y5)]) [1, 2, 3, 4, 5] rfl ?_
          obtain ⟨rfl, rfl⟩ := Prod.mk.inj h
          exact k_J10
        · have h := zif_f c9 h
          refine z_iload C0 dX1_trimOf_44 0 rfl ?_
          refine z_istore (lo1 := [(4, .int r8), (6, .int r8), (0, .ref (zb g + a0)), (2, .int r1), (3, .int y3), (5, .int y5)]) C0 dX1_trimOf_46 (by decide) rfl ?_
          refine z_iload C0 dX1_trimOf_48 5 rfl ?_
          refine z_istore_n (lo1 := [(3, .int y5), (4, .int r8), (6, .int r8), (0, .ref (zb g + a0)), (2, .int r1), (5, .int y5)]) C0 dX1_trimOf_50 rfl (by decide) rfl ?_
          refine z_sub (lo1 := [(0, .ref (zb g + a0)), (2, .int r1), (3, .int y5), (4, .int r8), (5, .int y5)]) [3, 4, 0, 1, 5] rfl ?_
          obtain ⟨rfl, rfl⟩ := Prod.mk.inj h
          exact k_J10
set_option maxHeartbeats 4000000 in
set_option maxRecDepth 100000 in
theorem r_X1_trimOf {l : Launch} {g : zL} (a0 : Nat) (v1 : Int32) (μ : zM) (hT0 : zT zNN zσ1 a0 1) {rv : Int32} (h : f_X1_trimOf a0 v1 μ = some rv) : zMet l g yX1_trimOf cX1_trimOf 7 (some (.int)) 2 0 0 zNN zNN zσ1 zσ1 [.ref (zb g + a0), .int v1] μ (some (.int rv)) μ := by
  refine zMet.of (by decide +kernel) (Nat.le_of_ble_eq_true rfl) ?_
  intro p e s m args below meth c C0
  refine z_loc (lo1 := [(0, .ref (zb g + a0)), (1, .int v1)]) rfl ?_
  unfold f_X1_trimOf at h
  refine z_aload_n C0 dX1_trimOf_0 rfl 0 rfl ?_
  refine z_getr C0 hT0 kf_1_30 zr_1_4 zx_1 (zs_1_4 hT0).1 dX1_trimOf_1 ?_
  refine z_iload_n C0 dX1_trimOf_4 rfl 1 rfl ?_
  refine z_iconst (v := (0 : Int32)) C0 dX1_trimOf_5 (by decide) ?_
  obtain ⟨r1, e_r1, h⟩ := zbd_of h
  refine z_callV (As := [.int v1, .int (0 : Int32)]) (rest := []) C0 rfl kc_X6_number km_RX1_80 (r_X6_number (l := l) (g := g) (a0 + 8) v1 (0 : Int32) μ (zs_1_4 hT0).2 e_r1) (zs_1_4 hT0).2.1 (zs_1_4 hT0).2.2.2.1 rfl (by decide) rfl (Nat.le_of_ble_eq_true rfl) (Nat.le_of_ble_eq_true rfl) (Nat.le_of_ble_eq_true rfl) (Nat.le_of_ble_eq_true rfl) (Nat.le_refl _) rfl rfl dX1_trimOf_6 ?_
  refine z_istore_n (lo1 := [(2, .int r1), (0, .ref (zb g + a0)), (1, .int v1)]) C0 dX1_trimOf_9 rfl (by decide) rfl ?_
  refine z_iconst (v := (0 : Int32)) C0 dX1_trimOf_10 (by decide) ?_
  refine z_istore_n (lo1 := [(3, .int (0 : Int32)), (2, .int r1), (0, .ref (zb g + a0)), (1, .int v1)]) C0 dX1_trimOf_11 rfl (by decide) rfl ?_
  refine z_ldc C0 dX1_trimOf_12 kk_RX1_127 ?_
  refine z_istore (lo1 := [(4, .int (1000000 : Int32)), (3, .int (0 : Int32)), (2, .int r1), (0, .ref (zb g + a0)), (1, .int v1)]) C0 dX1_trimOf_14 (by decide) rfl ?_
  refine z_iconst (v := (0 : Int32)) C0 dX1_trimOf_16 (by decide) ?_
  refine z_istore (lo1 := [(5, .int (0 : Int32)), (4, .int (1000000 : Int32)), (3, .int (0 : Int32)), (2, .int r1), (0, .ref (zb g + a0)), (1, .int v1)]) C0 dX1_trimOf_17 (by decide) rfl ?_
  refine z_sub (lo1 := [(0, .ref (zb g + a0)), (2, .int r1), (3, .int (0 : Int32)), (4, .int (1000000 : Int32)), (5, .int (0 : Int32))]) [4, 3, 2, 1, 0] rfl ?_
  obtain ⟨x14, e_x14, h⟩ := zbd_of h
  refine r_X1_trimOf_L19 C0 a0 r1 μ hT0 zFU (0 : Int32) (1000000 : Int32) (0 : Int32) x14 e_x14 ?_
  refine z_iload_n C0 dX1_trimOf_57 rfl 0 rfl ?_
  have h := Option.some.inj h
  obtain rfl := h
  exact z_iret C0 rfl dX1_trimOf_58
