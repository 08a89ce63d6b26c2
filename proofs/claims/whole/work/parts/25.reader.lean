def f_X10_bounds (w0 : Nat) (v1 : Int32) : Int32 :=
  if ¬ v1 = 0 then
    zl (if ¬ v1 = (1 : Int32) then
        if ¬ v1 = (2 : Int32) then
          (-1 : Int32)
        else
          (zWt w0)
      else
        (zWs w0)) fun x8 =>
    x8
  else
    (zWf w0)
set_option maxHeartbeats 4000000 in
set_option maxRecDepth 100000 in
theorem r_X10_bounds {l : Launch} {g : zL} {κ : zK} (w0 : Nat) (v1 : Int32) {μ : zM} (hW0 : w0 < 30) (hSp : zSK g κ) {rv : Int32} (h : f_X10_bounds w0 v1 = rv) : zMet l g yX10_bounds cX10_bounds 2 (some (.int)) 0 0 0 zNN zNN zσ1 zσ1 [.ref (kad κ w0), .int v1] μ (some (.int rv)) μ := by
  refine zMet.of (by decide +kernel) (Nat.le_of_ble_eq_true rfl) ?_
  intro p e s m args below meth c C0
  have hF := hSp.at C0
  refine z_loc (lo1 := [(0, .ref (kad κ w0)), (1, .int v1)]) rfl ?_
  unfold f_X10_bounds at h
  refine z_iload_n C0 dX10_bounds_0 rfl 1 rfl ?_
  refine z_if_ne C0 9 dX10_bounds_1 (by decide) (fun c1 => ?_) (fun c1 => ?_)
  · have h := zif_t c1 h
    refine z_iload_n C0 dX10_bounds_9 rfl 1 rfl ?_
    refine z_iconst (v := (1 : Int32)) C0 dX10_bounds_10 (by decide) ?_
    obtain ⟨x8, e_x8, h⟩ := zl_of h
    refine z_join μ 34 [] [.int x8] ?_ (fun k_J6 => ?_)
    · skip
      obtain rfl := h
      exact z_iret C0 rfl dX10_bounds_34
    · have h := e_x8.symm
      refine z_icmp_ne C0 21 dX10_bounds_11 (by decide) (fun c4 => ?_) (fun c4 => ?_)
      · have h := zif_t c4 h
        refine z_iload_n C0 dX10_bounds_21 rfl 1 rfl ?_
        refine z_iconst (v := (2 : Int32)) C0 dX10_bounds_22 (by decide) ?_
        refine z_icmp_ne C0 33 dX10_bounds_23 (by decide) (fun c7 => ?_) (fun c7 => ?_)
        · have h := zif_t c7 h
          refine z_iconst (v := (-1 : Int32)) C0 dX10_bounds_33 (by decide) ?_
          refine z_sub (lo1 := []) [] rfl ?_
          obtain rfl := h
          exact k_J6
        · have h := zif_f (fun q => q c7) h
          refine z_aload_n C0 dX10_bounds_26 rfl 0 rfl ?_
          refine z_getO C0 (hF.2.2.2.1 w0 hW0).2.2.2.2.2.1 kl_10_129 dX10_bounds_27 ?_
          refine z_goto C0 34 dX10_bounds_30 (by decide) ?_
          refine z_sub (lo1 := []) [] rfl ?_
          obtain rfl := h
          exact k_J6
      · have h := zif_f (fun q => q c4) h
        refine z_aload_n C0 dX10_bounds_14 rfl 0 rfl ?_
        refine z_getO C0 (hF.2.2.2.1 w0 hW0).2.2.2.2.1 kl_10_126 dX10_bounds_15 ?_
        refine z_goto C0 34 dX10_bounds_18 (by decide) ?_
        refine z_sub (lo1 := []) [] rfl ?_
        obtain rfl := h
        exact k_J6
  · have h := zif_f (fun q => q c1) h
    refine z_aload_n C0 dX10_bounds_4 rfl 0 rfl ?_
    refine z_getO C0 (hF.2.2.2.1 w0 hW0).2.2.2.1 kl_10_123 dX10_bounds_5 ?_
    skip
    obtain rfl := h
    exact z_iret C0 rfl dX10_bounds_8
def f_X10_allows (w0 : Nat) (v1 : Int32) (v2 : Int32) : Int32 :=
  zl (f_X10_bounds w0 v1) fun x1 =>
  zl (if (¬ (v2 < (x1 / (1000 : Int32)))) ∧ (¬ ((x1 % (1000 : Int32)) < v2)) then
      (1 : Int32)
    else
      (0 : Int32)) fun x5 =>
  x5
set_option maxHeartbeats 4000000 in
set_option maxRecDepth 100000 in
theorem r_X10_allows {l : Launch} {g : zL} {κ : zK} (w0 : Nat) (v1 : Int32) (v2 : Int32) {μ : zM} (hW0 : w0 < 30) (hSp : zSK g κ) {rv : Int32} (h : f_X10_allows w0 v1 v2 = rv) : zMet l g yX10_allows cX10_allows 4 (some (.boolean)) 1 0 0 zNN zNN zσ1 zσ1 [.ref (kad κ w0), .int v1, .int v2] μ (some (.int rv)) μ := by
  refine zMet.of (by decide +kernel) (Nat.le_of_ble_eq_true rfl) ?_
  intro p e s m args below meth c C0
  have hF := hSp.at C0
  refine z_loc (lo1 := [(0, .ref (kad κ w0)), (1, .int v1), (2, .int v2)]) rfl ?_
  unfold f_X10_allows at h
  refine z_aload_n C0 dX10_allows_0 rfl 0 rfl ?_
  refine z_iload_n C0 dX10_allows_1 rfl 1 rfl ?_
  refine z_callVO (As := [.int v1]) (rest := []) C0 rfl kc_X10_bounds km_RX10_132 (r_X10_bounds (l := l) (g := g) (μ := μ) w0 v1 hW0 hSp rfl) (hF.2.2.2.1 w0 hW0).2.1 rfl (Nat.le_of_ble_eq_true rfl) (Nat.le_of_ble_eq_true rfl) (Nat.le_of_ble_eq_true rfl) (Nat.le_of_ble_eq_true rfl) rfl rfl dX10_allows_2 ?_
  obtain ⟨x1, e_x1, h⟩ := zl_of h
  refine z_nm e_x1 ?_
  refine z_istore_n (lo1 := [(3, .int x1), (0, .ref (kad κ w0)), (1, .int v1), (2, .int v2)]) C0 dX10_allows_5 rfl (by decide) rfl ?_
  refine z_iload_n C0 dX10_allows_6 rfl 3 rfl ?_
  refine z_iload_n C0 dX10_allows_7 rfl 0 rfl ?_
  refine z_sipush (v := (1000 : Int32)) C0 dX10_allows_8 (by decide) ?_
  refine z_idiv C0 dX10_allows_11 (by decide) ?_
  obtain ⟨x5, e_x5, h⟩ := zl_of h
  refine z_join μ 29 [] [.int x5] ?_ (fun k_J4 => ?_)
  · skip
    obtain rfl := h
    exact z_zret C0 rfl (by rw [e_x5]; repeat' split <;> rfl) dX10_allows_29
  · have h := e_x5.symm
    by_cases hc6 : (¬ (v2 < (x1 / (1000 : Int32)))) ∧ (¬ ((x1 % (1000 : Int32)) < v2))
    · have h := zif_t hc6 h
      refine z_join μ 24 [(3, .int x1), (0, .ref (kad κ w0)), (1, .int v1), (2, .int v2)] [] ?_ (fun k7 => ?_)
      · refine z_iconst (v := (1 : Int32)) C0 dX10_allows_24 (by decide) ?_
        refine z_goto C0 29 dX10_allows_25 (by decide) ?_
        refine z_sub (lo1 := []) [] rfl ?_
        obtain rfl := h
        exact k_J4
      · refine z_icmp_lt C0 28 dX10_allows_12 (by decide) (fun c2 => ?_) (fun c2 => ?_)
        · exact absurd hc6 (fun q => q.1 c2)
        · refine z_iload_n C0 dX10_allows_15 rfl 3 rfl ?_
          refine z_iload_n C0 dX10_allows_16 rfl 0 rfl ?_
          refine z_sipush (v := (1000 : Int32)) C0 dX10_allows_17 (by decide) ?_
          refine z_irem C0 dX10_allows_20 (by decide) ?_
          refine z_icmp_gt C0 28 dX10_allows_21 (by decide) (fun c3 => ?_) (fun c3 => ?_)
          · exact absurd hc6 (fun q => (fun q => q c3) q.2)
          · exact k7
    · have h := zif_f hc6 h
      refine z_join μ 28 [(3, .int x1), (0, .ref (kad κ w0)), (1, .int v1), (2, .int v2)] [] ?_ (fun k8 => ?_)
      · refine z_iconst (v := (0 : Int32)) C0 dX10_allows_28 (by decide) ?_
        refine z_sub (lo1 := []) [] rfl ?_
        obtain rfl := h
        exact k_J4
      · refine z_icmp_lt C0 28 dX10_allows_12 (by decide) (fun c2 => ?_) (fun c2 => ?_)
        · exact k8
        · refine z_iload_n C0 dX10_allows_15 rfl 3 rfl ?_
          refine z_iload_n C0 dX10_allows_16 rfl 0 rfl ?_
          refine z_sipush (v := (1000 : Int32)) C0 dX10_allows_17 (by decide) ?_
          refine z_irem C0 dX10_allows_20 (by decide) ?_
          refine z_icmp_gt C0 28 dX10_allows_21 (by decide) (fun c3 => ?_) (fun c3 => ?_)
          · exact k8
          · exact absurd ⟨c2, c3⟩ hc6
def f_X10_matter (w0 : Nat) : Int32 :=
  ((zWc w0) % (100 : Int32))
set_option maxHeartbeats 4000000 in
set_option maxRecDepth 100000 in
theorem r_X10_matter {l : Launch} {g : zL} {κ : zK} (w0 : Nat) {μ : zM} (hW0 : w0 < 30) (hSp : zSK g κ) {rv : Int32} (h : f_X10_matter w0 = rv) : zMet l g yX10_matter cX10_matter 1 (some (.int)) 0 0 0 zNN zNN zσ1 zσ1 [.ref (kad κ w0)] μ (some (.int rv)) μ := by
  refine zMet.of (by decide +kernel) (Nat.le_of_ble_eq_true rfl) ?_
  intro p e s m args below meth c C0
  have hF := hSp.at C0
  refine z_loc (lo1 := [(0, .ref (kad κ w0))]) rfl ?_
  unfold f_X10_matter at h
  refine z_aload_n C0 dX10_matter_0 rfl 0 rfl ?_
  refine z_getO C0 (hF.2.2.2.1 w0 hW0).2.2.1 kl_10_115 dX10_matter_1 ?_
  refine z_bipush (v := (100 : Int32)) C0 dX10_matter_4 (by decide) ?_
  refine z_irem C0 dX10_matter_6 (by decide) ?_
  skip
  obtain rfl := h
  exact z_iret C0 rfl dX10_matter_7
def f_X10_sort (w0 : Nat) : Int32 :=
  ((zWc w0) / (100 : Int32))
set_option maxHeartbeats 4000000 in
set_option maxRecDepth 100000 in
theorem r_X10_sort {l : Launch} {g : zL} {κ : zK} (w0 : Nat) {μ : zM} (hW0 : w0 < 30) (hSp : zSK g κ) {rv : Int32} (h : f_X10_sort w0 = rv) : zMet l g yX10_sort cX10_sort 1 (some (.int)) 0 0 0 zNN zNN zσ1 zσ1 [.ref (kad κ w0)] μ (some (.int rv)) μ := by
  refine zMet.of (by decide +kernel) (Nat.le_of_ble_eq_true rfl) ?_
  intro p e s m args below meth c C0
  have hF := hSp.at C0
  refine z_loc (lo1 := [(0, .ref (kad κ w0))]) rfl ?_
  unfold f_X10_sort at h
  refine z_aload_n C0 dX10_sort_0 rfl 0 rfl ?_
  refine z_getO C0 (hF.2.2.2.1 w0 hW0).2.2.1 kl_10_115 dX10_sort_1 ?_
  refine z_bipush (v := (100 : Int32)) C0 dX10_sort_4 (by decide) ?_
  refine z_idiv C0 dX10_sort_6 (by decide) ?_
  skip
  obtain rfl := h
  exact z_iret C0 rfl dX10_sort_7
def f_X10_takesNumber (w0 : Nat) (v1 : Int32) : Int32 :=
  zl (if (f_X10_bounds w0 v1) = (-1 : Int32) then
      (0 : Int32)
    else
      (1 : Int32)) fun x3 =>
  x3
set_option maxHeartbeats 4000000 in
set_option maxRecDepth 100000 in
theorem r_X10_takesNumber {l : Launch} {g : zL} {κ : zK} (w0 : Nat) (v1 : Int32) {μ : zM} (hW0 : w0 < 30) (hSp : zSK g κ) {rv : Int32} (h : f_X10_takesNumber w0 v1 = rv) : zMet l g yX10_takesNumber cX10_takesNumber 2 (some (.boolean)) 1 0 0 zNN zNN zσ1 zσ1 [.ref (kad κ w0), .int v1] μ (some (.int rv)) μ := by
  refine zMet.of (by decide +kernel) (Nat.le_of_ble_eq_true rfl) ?_
  intro p e s m args below meth c C0
  have hF := hSp.at C0
  refine z_loc (lo1 := [(0, .ref (kad κ w0)), (1, .int v1)]) rfl ?_
  unfold f_X10_takesNumber at h
  refine z_aload_n C0 dX10_takesNumber_0 rfl 0 rfl ?_
  refine z_iload_n C0 dX10_takesNumber_1 rfl 1 rfl ?_
  refine z_callVO (As := [.int v1]) (rest := []) C0 rfl kc_X10_bounds km_RX10_132 (r_X10_bounds (l := l) (g := g) (μ := μ) w0 v1 hW0 hSp rfl) (hF.2.2.2.1 w0 hW0).2.1 rfl (Nat.le_of_ble_eq_true rfl) (Nat.le_of_ble_eq_true rfl) (Nat.le_of_ble_eq_true rfl) (Nat.le_of_ble_eq_true rfl) rfl rfl dX10_takesNumber_2 ?_
  refine z_iconst (v := (-1 : Int32)) C0 dX10_takesNumber_5 (by decide) ?_
  obtain ⟨x3, e_x3, h⟩ := zl_of h
  refine z_join μ 14 [] [.int x3] ?_ (fun k_J2 => ?_)
  · skip
    obtain rfl := h
    exact z_zret C0 rfl (by rw [e_x3]; repeat' split <;> rfl) dX10_takesNumber_14
  · have h := e_x3.symm
    refine z_icmp_eq C0 13 dX10_takesNumber_6 (by decide) (fun c1 => ?_) (fun c1 => ?_)
    · have h := zif_t c1 h
      refine z_iconst (v := (0 : Int32)) C0 dX10_takesNumber_13 (by decide) ?_
      refine z_sub (lo1 := []) [] rfl ?_
      obtain rfl := h
      exact k_J2
    · have h := zif_f c1 h
      refine z_iconst (v := (1 : Int32)) C0 dX10_takesNumber_9 (by decide) ?_
      refine z_goto C0 14 dX10_takesNumber_10 (by decide) ?_
      refine z_sub (lo1 := []) [] rfl ?_
      obtain rfl := h
      exact k_J2
def f_X5_mostRows (v0 : Int32) : Int32 :=
  if ¬ v0 = 0 then
    zl (if ¬ v0 = (1 : Int32) then
        (8 : Int32)
      else
        (40 : Int32)) fun x5 =>
    x5
  else
    (0 : Int32)
set_option maxHeartbeats 4000000 in
set_option maxRecDepth 100000 in
theorem r_X5_mostRows {l : Launch} {g : zL} {N : Nat} {σ : Nat → Nat → Bool} (v0 : Int32) {μ : zM}  {rv : Int32} (h : f_X5_mostRows v0 = rv) : zMet l g yX5_mostRows cX5_mostRows 1 (some (.int)) 0 0 0 N N σ σ [.int v0] μ (some (.int rv)) μ := by
  refine zMet.of (by decide +kernel) (Nat.le_of_ble_eq_true rfl) ?_
  intro p e s m args below meth c C0
  refine z_loc (lo1 := [(0, .int v0)]) rfl ?_
  unfold f_X5_mostRows at h
  refine z_iload_n C0 dX5_mostRows_0 rfl 0 rfl ?_
  refine z_if_ne C0 6 dX5_mostRows_1 (by decide) (fun c1 => ?_) (fun c1 => ?_)
  · have h := zif_t c1 h
    refine z_iload_n C0 dX5_mostRows_6 rfl 0 rfl ?_
    refine z_iconst (v := (1 : Int32)) C0 dX5_mostRows_7 (by decide) ?_
    obtain ⟨x5, e_x5, h⟩ := zl_of h
    refine z_join μ 18 [] [.int x5] ?_ (fun k_J4 => ?_)
    · skip
      obtain rfl := h
      exact z_iret C0 rfl dX5_mostRows_18
    · have h := e_x5.symm
      refine z_icmp_ne C0 16 dX5_mostRows_8 (by decide) (fun c3 => ?_) (fun c3 => ?_)
      · have h := zif_t c3 h
        refine z_bipush (v := (8 : Int32)) C0 dX5_mostRows_16 (by decide) ?_
        refine z_sub (lo1 := []) [] rfl ?_
        obtain rfl := h
        exact k_J4
      · have h := zif_f (fun q => q c3) h
        refine z_bipush (v := (40 : Int32)) C0 dX5_mostRows_11 (by decide) ?_
        refine z_goto C0 18 dX5_mostRows_13 (by decide) ?_
        refine z_sub (lo1 := []) [] rfl ?_
        obtain rfl := h
        exact k_J4
  · have h := zif_f (fun q => q c1) h
    refine z_iconst (v := (0 : Int32)) C0 dX5_mostRows_4 (by decide) ?_
    skip
    obtain rfl := h
    exact z_iret C0 rfl dX5_mostRows_5
def f_X5_byteAt (a0 : Nat) (v1 : Int32) (μ : zM) : Option (Int32) :=
  zbd (zbd (if v1 < 0 then
        some false
      else
        if (μ a0 5) ≤ v1 then
          some false
        else
          zg (zgk (μ a0 4) 20) <|
          if (Int32.ofNat (zln ((μ a0 4).toNatClampNeg))) ≤ v1 then
            some false
          else
            some true) fun b6 =>
    if b6 = true then
      zg (zgk (μ a0 4) 20) <|
      zg (zin v1 (zln ((μ a0 4).toNatClampNeg))) <|
      some (μ ((μ a0 4).toNatClampNeg) (v1.toNatClampNeg))
    else
      some (-1 : Int32)) fun x10 =>
  some x10
set_option maxHeartbeats 4000000 in
set_option maxRecDepth 100000 in
theorem r_X5_byteAt {l : Launch} {g : zL} (a0 : Nat) (v1 : Int32) (μ : zM) (hT0 : zT zNN zσ1 a0 5) {rv : Int32} (h : f_X5_byteAt a0 v1 μ = some rv) : zMet l g yX5_byteAt cX5_byteAt 2 (some (.int)) 0 0 0 zNN zNN zσ1 zσ1 [.ref (zb g + a0), .int v1] μ (some (.int rv)) μ := by
  refine zMet.of (by decide +kernel) (Nat.le_of_ble_eq_true rfl) ?_
  intro p e s m args below meth c C0
  refine z_loc (lo1 := [(0, .ref (zb g + a0)), (1, .int v1)]) rfl ?_
  unfold f_X5_byteAt at h
  refine z_iload_n C0 dX5_byteAt_0 rfl 1 rfl ?_
  obtain ⟨x10, e_x10, h⟩ := zbd_of h
  refine z_join μ 31 [] [.int x10] ?_ (fun k_J7 => ?_)
  · have h := Option.some.inj h
    obtain rfl := h
    exact z_iret C0 rfl dX5_byteAt_31
  · have h := e_x10
    obtain ⟨b6, e_b6, h⟩ := zbd_of h
    refine z_joinb b6 μ 21 30 [(0, .ref (zb g + a0)), (1, .int v1)] [] (fun z13 => ?_) (fun z13 => ?_) (fun k11 k12 => ?_)
    · have h := zif_t z13 h
      refine z_aload_n C0 dX5_byteAt_21 rfl 0 rfl ?_
      obtain ⟨g8, h⟩ := zg_of h
      refine z_getd C0 hT0.1 hT0.2.2.1 kf_5_28 zr_5_4 (zgk_A g8 (by decide)).1 dX5_byteAt_22 ?_
      refine z_iload_n C0 dX5_byteAt_25 rfl 1 rfl ?_
      obtain ⟨g9, h⟩ := zg_of h
      refine z_iald C0 (zgk_A g8 (by decide)).2 g9 rfl dX5_byteAt_26 ?_
      refine z_goto C0 31 dX5_byteAt_27 (by decide) ?_
      refine z_sub (lo1 := []) [] rfl ?_
      obtain rfl := (Option.some.inj h)
      exact k_J7
    · have h := zif_f (fun q => Bool.noConfusion (z13.symm.trans q)) h
      refine z_iconst (v := (-1 : Int32)) C0 dX5_byteAt_30 (by decide) ?_
      refine z_sub (lo1 := []) [] rfl ?_
      obtain rfl := (Option.some.inj h)
      exact k_J7
    · have h := e_b6
      refine z_if_lt C0 30 dX5_byteAt_1 (by decide) (fun c1 => ?_) (fun c1 => ?_)
      · have h := zif_t c1 h
        exact k12 (Option.some.inj h).symm
      · have h := zif_f c1 h
        refine z_iload_n C0 dX5_byteAt_4 rfl 1 rfl ?_
        refine z_aload_n C0 dX5_byteAt_5 rfl 0 rfl ?_
        refine z_geti C0 hT0.1 hT0.2.2.1 kf_5_48 zr_5_5 dX5_byteAt_6 ?_
        refine z_icmp_ge C0 30 dX5_byteAt_9 (by decide) (fun c2 => ?_) (fun c2 => ?_)
        · have h := zif_t c2 h
          exact k12 (Option.some.inj h).symm
        · have h := zif_f c2 h
          refine z_iload_n C0 dX5_byteAt_12 rfl 1 rfl ?_
          refine z_aload_n C0 dX5_byteAt_13 rfl 0 rfl ?_
          obtain ⟨g4, h⟩ := zg_of h
          refine z_getd C0 hT0.1 hT0.2.2.1 kf_5_28 zr_5_4 (zgk_A g4 (by decide)).1 dX5_byteAt_14 ?_
          refine z_alen (v := (Int32.ofNat (zln ((μ a0 4).toNatClampNeg)))) C0 (zgk_A g4 (by decide)).2 (by decide) (by decide) rfl dX5_byteAt_17 ?_
          refine z_icmp_ge C0 30 dX5_byteAt_18 (by decide) (fun c5 => ?_) (fun c5 => ?_)
          · have h := zif_t c5 h
            exact k12 (Option.some.inj h).symm
          · have h := zif_f c5 h
            exact k11 (Option.some.inj h).symm
def f_X5_isLetter (v0 : Int32) : Int32 :=
  zl (if (¬ (v0 < (97 : Int32))) ∧ (¬ ((122 : Int32) < v0)) then
      (1 : Int32)
    else
      (0 : Int32)) fun x4 =>
  x4
set_option maxHeartbeats 4000000 in
set_option maxRecDepth 100000 in
theorem r_X5_isLetter {l : Launch} {g : zL} (v0 : Int32) {μ : zM}  {rv : Int32} (h : f_X5_isLetter v0 = rv) : zMet l g yX5_isLetter cX5_isLetter 1 (some (.boolean)) 0 0 0 zNN zNN zσ1 zσ1 [.int v0] μ (some (.int rv)) μ := by
  refine zMet.of (by decide +kernel) (Nat.le_of_ble_eq_true rfl) ?_
  intro p e s m args below meth c C0
  refine z_loc (lo1 := [(0, .int v0)]) rfl ?_
  unfold f_X5_isLetter at h
  refine z_iload_n C0 dX5_isLetter_0 rfl 0 rfl ?_
  refine z_bipush (v := (97 : Int32)) C0 dX5_isLetter_1 (by decide) ?_
  obtain ⟨x4, e_x4, h⟩ := zl_of h
  refine z_join μ 17 [] [.int x4] ?_ (fun k_J3 => ?_)
  · skip
    obtain rfl := h
    exact z_zret C0 rfl (by rw [e_x4]; repeat' split <;> rfl) dX5_isLetter_17
  · have h := e_x4.symm
    by_cases hc5 : (¬ (v0 < (97 : Int32))) ∧ (¬ ((122 : Int32) < v0))
    · have h := zif_t hc5 h
      refine z_join μ 12 [(0, .int v0)] [] ?_ (fun k6 => ?_)
      · refine z_iconst (v := (1 : Int32)) C0 dX5_isLetter_12 (by decide) ?_
        refine z_goto C0 17 dX5_isLetter_13 (by decide) ?_
        refine z_sub (lo1 := []) [] rfl ?_
        obtain rfl := h
        exact k_J3
      · refine z_icmp_lt C0 16 dX5_isLetter_3 (by decide) (fun c1 => ?_) (fun c1 => ?_)
        · exact absurd hc5 (fun q => q.1 c1)
        · refine z_iload_n C0 dX5_isLetter_6 rfl 0 rfl ?_
          refine z_bipush (v := (122 : Int32)) C0 dX5_isLetter_7 (by decide) ?_
          refine z_icmp_gt C0 16 dX5_isLetter_9 (by decide) (fun c2 => ?_) (fun c2 => ?_)
          · exact absurd hc5 (fun q => (fun q => q c2) q.2)
          · exact k6
    · have h := zif_f hc5 h
      refine z_join μ 16 [(0, .int v0)] [] ?_ (fun k7 => ?_)
      · refine z_iconst (v := (0 : Int32)) C0 dX5_isLetter_16 (by decide) ?_
        refine z_sub (lo1 := []) [] rfl ?_
        obtain rfl := h
        exact k_J3
      · refine z_icmp_lt C0 16 dX5_isLetter_3 (by decide) (fun c1 => ?_) (fun c1 => ?_)
        · exact k7
        · refine z_iload_n C0 dX5_isLetter_6 rfl 0 rfl ?_
          refine z_bipush (v := (122 : Int32)) C0 dX5_isLetter_7 (by decide) ?_
          refine z_icmp_gt C0 16 dX5_isLetter_9 (by decide) (fun c2 => ?_) (fun c2 => ?_)
          · exact k7
          · exact absurd ⟨c1, c2⟩ hc5
def f_X5_isDigit (v0 : Int32) : Int32 :=
  zl (if (¬ (v0 < (48 : Int32))) ∧ (¬ ((57 : Int32) < v0)) then
      (1 : Int32)
    else
      (0 : Int32)) fun x4 =>
  x4
set_option maxHeartbeats 4000000 in
set_option maxRecDepth 100000 in
theorem r_X5_isDigit {l : Launch} {g : zL} (v0 : Int32) {μ : zM}  {rv : Int32} (h : f_X5_isDigit v0 = rv) : zMet l g yX5_isDigit cX5_isDigit 1 (some (.boolean)) 0 0 0 zNN zNN zσ1 zσ1 [.int v0] μ (some (.int rv)) μ := by
  refine zMet.of (by decide +kernel) (Nat.le_of_ble_eq_true rfl) ?_
  intro p e s m args below meth c C0
  refine z_loc (lo1 := [(0, .int v0)]) rfl ?_
  unfold f_X5_isDigit at h
  refine z_iload_n C0 dX5_isDigit_0 rfl 0 rfl ?_
  refine z_bipush (v := (48 : Int32)) C0 dX5_isDigit_1 (by decide) ?_
  obtain ⟨x4, e_x4, h⟩ := zl_of h
  refine z_join μ 17 [] [.int x4] ?_ (fun k_J3 => ?_)
  · skip
    obtain rfl := h
    exact z_zret C0 rfl (by rw [e_x4]; repeat' split <;> rfl) dX5_isDigit_17
  · have h := e_x4.symm
    by_cases hc5 : (¬ (v0 < (48 : Int32))) ∧ (¬ ((57 : Int32) < v0))
    · have h := zif_t hc5 h
      refine z_join μ 12 [(0, .int v0)] [] ?_ (fun k6 => ?_)
      · refine z_iconst (v := (1 : Int32)) C0 dX5_isDigit_12 (by decide) ?_
        refine z_goto C0 17 dX5_isDigit_13 (by decide) ?_
        refine z_sub (lo1 := []) [] rfl ?_
        obtain rfl := h
        exact k_J3
      · refine z_icmp_lt C0 16 dX5_isDigit_3 (by decide) (fun c1 => ?_) (fun c1 => ?_)
        · exact absurd hc5 (fun q => q.1 c1)
        · refine z_iload_n C0 dX5_isDigit_6 rfl 0 rfl ?_
          refine z_bipush (v := (57 : Int32)) C0 dX5_isDigit_7 (by decide) ?_
          refine z_icmp_gt C0 16 dX5_isDigit_9 (by decide) (fun c2 => ?_) (fun c2 => ?_)
          · exact absurd hc5 (fun q => (fun q => q c2) q.2)
          · exact k6
    · have h := zif_f hc5 h
      refine z_join μ 16 [(0, .int v0)] [] ?_ (fun k7 => ?_)
      · refine z_iconst (v := (0 : Int32)) C0 dX5_isDigit_16 (by decide) ?_
        refine z_sub (lo1 := []) [] rfl ?_
        obtain rfl := h
        exact k_J3
      · refine z_icmp_lt C0 16 dX5_isDigit_3 (by decide) (fun c1 => ?_) (fun c1 => ?_)
        · exact k7
        · refine z_iload_n C0 dX5_isDigit_6 rfl 0 rfl ?_
          refine z_bipush (v := (57 : Int32)) C0 dX5_isDigit_7 (by decide) ?_
          refine z_icmp_gt C0 16 dX5_isDigit_9 (by decide) (fun c2 => ?_) (fun c2 => ?_)
          · exact k7
          · exact absurd ⟨c1, c2⟩ hc5
def f_X5_lookAtDigits_L5 (a0 : Nat) : Nat → zM → Option (zM)
  | 0, _ => none
  | n + 1, μ3 =>
    zbd (if (μ3 a0 5) ≤ (μ3 a0 8) then
        some false
      else
        zbd (f_X5_byteAt a0 (μ3 a0 8) μ3) fun r6 =>
        if (f_X5_isDigit r6) = 0 then
          some false
        else
          some true) fun b8 =>
    if b8 = true then
      zbd (if (3 : Int32) ≤ ((μ3 a0 8) - (μ3 a0 7)) then
          some (μ3 a0 9)
        else
          zbd (f_X5_byteAt a0 (μ3 a0 8) μ3) fun r11 =>
          some ((((μ3 a0 9) * (10 : Int32)) + r11) - (48 : Int32))) fun x12 =>
      zl (zup μ3 a0 9 x12) fun μ13 =>
      zl (zup μ13 a0 8 ((μ13 a0 8) + (1 : Int32))) fun μ14 =>
      f_X5_lookAtDigits_L5 a0 n μ14
    else
      some μ3
def f_X5_lookAtDigits (a0 : Nat) (μ : zM) : Option (zM) :=
  zl (zup μ a0 9 (0 : Int32)) fun μ1 =>
  zbd (f_X5_lookAtDigits_L5 a0 zFU μ1) fun μ15 =>
  zl (if (3 : Int32) < ((μ15 a0 8) - (μ15 a0 7)) then
      (4 : Int32)
    else
      (2 : Int32)) fun x18 =>
  zl (zup μ15 a0 6 x18) fun μ19 =>
  some μ19
set_option maxHeartbeats 4000000 in
set_option maxRecDepth 100000 in
theorem r_X5_lookAtDigits_L5 {l : Launch} {g : zL} {p : Program} {e : Env} {s : State} {m : MethodId} {args : Array Value} {below : List Frame} {meth : Method} {c : Code} {Q : State → Prop} (C0 : zC p s m args meth c g cX5_lookAtDigits yX5_lookAtDigits 1 none) (a0 : Nat) (hU2 : zT zNN zσ1 a0 5) : ∀ (n : Nat) (μ3 : zM) (μ15 : zM), f_X5_lookAtDigits_L5 a0 n μ3 = some μ15 → Z p l e (zrm 1 0 0) s m args below meth c g Q 1 zNN 0 0 zσ1 μ15 86 [(0, .ref (zb g + a0))] [] → Z p l e (zrm 1 0 0) s m args below meth c g Q 1 zNN 0 0 zσ1 μ3 5 [(0, .ref (zb g + a0))] [] := by
  intro n
  induction n with
  | zero =>
    intro μ3 μ15 h kx
    rw [f_X5_lookAtDigits_L5] at h
    cases h
  | succ n ih =>
    intro μ3 μ15 h kx
    rw [f_X5_lookAtDigits_L5] at h
    refine z_aload_n C0 dX5_lookAtDigits_5 rfl 0 rfl ?_
    refine z_geti C0 hU2.1 hU2.2.2.1 kf_5_54 zr_5_8 dX5_lookAtDigits_6 ?_
    refine z_aload_n C0 dX5_lookAtDigits_9 rfl 0 rfl ?_
    refine z_geti C0 hU2.1 hU2.2.2.1 kf_5_48 zr_5_5 dX5_lookAtDigits_10 ?_
    obtain ⟨b8, e_b8, h⟩ := zbd_of h
    refine z_joinb b8 μ3 30 86 [(0, .ref (zb g + a0))] [] (fun z22 => ?_) (fun z22 => ?_) (fun k20 k21 => ?_)
    · have h := zif_t z22 h
      refine z_aload_n C0 dX5_lookAtDigits_30 rfl 0 rfl ?_
      refine z_aload_n C0 dX5_lookAtDigits_31 rfl 0 rfl ?_
      refine z_geti C0 hU2.1 hU2.2.2.1 kf_5_54 zr_5_8 dX5_lookAtDigits_32 ?_
      refine z_aload_n C0 dX5_lookAtDigits_35 rfl 0 rfl ?_
      refine z_geti C0 hU2.1 hU2.2.2.1 kf_5_79 zr_5_7 dX5_lookAtDigits_36 ?_
      refine z_isub C0 dX5_lookAtDigits_39 ?_
      refine z_iconst (v := (3 : Int32)) C0 dX5_lookAtDigits_40 (by decide) ?_
      obtain ⟨x12, e_x12, h⟩ := zbd_of h
      refine z_join μ3 70 [(0, .ref (zb g + a0))] [.int x12, .ref (zb g + a0)] ?_ (fun k_J10 => ?_)
      · obtain ⟨μ13, e_μ13, h⟩ := zl_of h
        refine z_puti C0 hU2.1 hU2.2.2.1 kf_5_95 zp_5_9 zr_5_9 e_μ13 dX5_lookAtDigits_70 ?_
        refine z_aload_n C0 dX5_lookAtDigits_73 rfl 0 rfl ?_
        refine z_dup C0 dX5_lookAtDigits_74 rfl ?_
        refine z_geti C0 hU2.1 hU2.2.2.1 kf_5_54 zr_5_8 dX5_lookAtDigits_75 ?_
        refine z_iconst (v := (1 : Int32)) C0 dX5_lookAtDigits_78 (by decide) ?_
        refine z_iadd C0 dX5_lookAtDigits_79 ?_
        obtain ⟨μ14, e_μ14, h⟩ := zl_of h
        refine z_puti C0 hU2.1 hU2.2.2.1 kf_5_54 zp_5_8 zr_5_8 e_μ14 dX5_lookAtDigits_80 ?_
        refine z_goto C0 5 dX5_lookAtDigits_83 (by decide) ?_
        exact ih _ _ h kx
      · have h := e_x12
        refine z_icmp_ge C0 66 dX5_lookAtDigits_41 (by decide) (fun c9 => ?_) (fun c9 => ?_)
        · have h := zif_t c9 h
          refine z_aload_n C0 dX5_lookAtDigits_66 rfl 0 rfl ?_
          refine z_geti C0 hU2.1 hU2.2.2.1 kf_5_95 zr_5_9 dX5_lookAtDigits_67 ?_
          obtain rfl := (Option.some.inj h)
          exact k_J10
        · have h := zif_f c9 h
          refine z_aload_n C0 dX5_lookAtDigits_44 rfl 0 rfl ?_
          refine z_geti C0 hU2.1 hU2.2.2.1 kf_5_95 zr_5_9 dX5_lookAtDigits_45 ?_
          refine z_bipush (v := (10 : Int32)) C0 dX5_lookAtDigits_48 (by decide) ?_
          refine z_imul C0 dX5_lookAtDigits_50 ?_
          refine z_aload_n C0 dX5_lookAtDigits_51 rfl 0 rfl ?_
          refine z_aload_n C0 dX5_lookAtDigits_52 rfl 0 rfl ?_
          refine z_geti C0 hU2.1 hU2.2.2.1 kf_5_54 zr_5_8 dX5_lookAtDigits_53 ?_
          obtain ⟨r11, e_r11, h⟩ := zbd_of h
          refine z_callV (As := [.int (μ3 a0 8)]) (rest := [.int ((μ3 a0 9) * (10 : Int32)), .ref (zb g + a0)]) C0 rfl kc_X5_byteAt km_RX5_82 (r_X5_byteAt (l := l) (g := g) a0 (μ3 a0 8) μ3 hU2 e_r11) hU2.1 hU2.2.2.1 rfl (by decide) rfl (Nat.le_of_ble_eq_true rfl) (Nat.le_of_ble_eq_true rfl) (Nat.le_of_ble_eq_true rfl) (Nat.le_of_ble_eq_true rfl) (Nat.le_refl _) rfl rfl dX5_lookAtDigits_56 ?_
          refine z_iadd C0 dX5_lookAtDigits_59 ?_
          refine z_bipush (v := (48 : Int32)) C0 dX5_lookAtDigits_60 (by decide) ?_
          refine z_isub C0 dX5_lookAtDigits_62 ?_
          refine z_goto C0 70 dX5_lookAtDigits_63 (by decide) ?_
          obtain rfl := (Option.some.inj h)
          exact k_J10
    · have h := zif_f (fun q => Bool.noConfusion (z22.symm.trans q)) h
      obtain rfl := (Option.some.inj h)
      exact kx
    · have h := e_b8
      refine z_icmp_ge C0 86 dX5_lookAtDigits_13 (by decide) (fun c4 => ?_) (fun c4 => ?_)
      · have h := zif_t c4 h
        exact k21 (Option.some.inj h).symm
      · have h := zif_f c4 h
        refine z_aload_n C0 dX5_lookAtDigits_16 rfl 0 rfl ?_
        refine z_aload_n C0 dX5_lookAtDigits_17 rfl 0 rfl ?_
        refine z_geti C0 hU2.1 hU2.2.2.1 kf_5_54 zr_5_8 dX5_lookAtDigits_18 ?_
        obtain ⟨r6, e_r6, h⟩ := zbd_of h
        refine z_callV (As := [.int (μ3 a0 8)]) (rest := []) C0 rfl kc_X5_byteAt km_RX5_82 (r_X5_byteAt (l := l) (g := g) a0 (μ3 a0 8) μ3 hU2 e_r6) hU2.1 hU2.2.2.1 rfl (by decide) rfl (Nat.le_of_ble_eq_true rfl) (Nat.le_of_ble_eq_true rfl) (Nat.le_of_ble_eq_true rfl) (Nat.le_of_ble_eq_true rfl) (Nat.le_refl _) rfl rfl dX5_lookAtDigits_21 ?_
        refine z_callS (As := [.int r6]) (rest := []) C0 rfl kc_X5_isDigit km_RX5_89 (r_X5_isDigit (l := l) (g := g) (μ := μ3) r6 rfl) rfl (Nat.le_of_ble_eq_true rfl) (Nat.le_of_ble_eq_true rfl) (Nat.le_of_ble_eq_true rfl) (Nat.le_of_ble_eq_true rfl) (Nat.le_refl _) rfl rfl dX5_lookAtDigits_24 ?_
        refine z_if_eq C0 86 dX5_lookAtDigits_27 (by decide) (fun c7 => ?_) (fun c7 => ?_)
        · have h := zif_t c7 h
          exact k21 (Option.some.inj h).symm
        · have h := zif_f c7 h
          exact k20 (Option.some.inj h).symm
set_option maxHeartbeats 4000000 in
set_option maxRecDepth 100000 in
theorem r_X5_lookAtDigits {l : Launch} {g : zL} (a0 : Nat) (μ : zM) (hT0 : zT zNN zσ1 a0 5) {μr : zM} (h : f_X5_lookAtDigits a0 μ = some μr) : zMet l g yX5_lookAtDigits cX5_lookAtDigits 1 none 1 0 0 zNN zNN zσ1 zσ1 [.ref (zb g + a0)] μ none μr := by
  refine zMet.of (by decide +kernel) (Nat.le_of_ble_eq_true rfl) ?_
  intro p e s m args below meth c C0
  refine z_loc (lo1 := [(0, .ref (zb g + a0))]) rfl ?_
  unfold f_X5_lookAtDigits at h
  refine z_aload_n C0 dX5_lookAtDigits_0 rfl 0 rfl ?_
  refine z_iconst (v := (0 : Int32)) C0 dX5_lookAtDigits_1 (by decide) ?_
  obtain ⟨μ1, e_μ1, h⟩ := zl_of h
  refine z_puti C0 hT0.1 hT0.2.2.1 kf_5_95 zp_5_9 zr_5_9 e_μ1 dX5_lookAtDigits_2 ?_
  obtain ⟨μ15, e_μ15, h⟩ := zbd_of h
  refine r_X5_lookAtDigits_L5 C0 a0 hT0 zFU μ1 μ15 e_μ15 ?_
  refine z_aload_n C0 dX5_lookAtDigits_86 rfl 0 rfl ?_
  refine z_aload_n C0 dX5_lookAtDigits_87 rfl 0 rfl ?_
  refine z_geti C0 hT0.1 hT0.2.2.1 kf_5_54 zr_5_8 dX5_lookAtDigits_88 ?_
  refine z_aload_n C0 dX5_lookAtDigits_91 rfl 0 rfl ?_
  refine z_geti C0 hT0.1 hT0.2.2.1 kf_5_79 zr_5_7 dX5_lookAtDigits_92 ?_
  refine z_isub C0 dX5_lookAtDigits_95 ?_
  refine z_iconst (v := (3 : Int32)) C0 dX5_lookAtDigits_96 (by decide) ?_
  obtain ⟨x18, e_x18, h⟩ := zl_of h
  refine z_join μ15 105 [] [.int x18, .ref (zb g + a0)] ?_ (fun k_J17 => ?_)
  · obtain ⟨μ19, e_μ19, h⟩ := zl_of h
    refine z_puti C0 hT0.1 hT0.2.2.1 kf_5_66 zp_5_6 zr_5_6 e_μ19 dX5_lookAtDigits_105 ?_
    have h := Option.some.inj h
    obtain rfl := h
    exact z_vret C0 rfl dX5_lookAtDigits_108
  · have h := e_x18.symm
    refine z_icmp_gt C0 104 dX5_lookAtDigits_97 (by decide) (fun c16 => ?_) (fun c16 => ?_)
    · have h := zif_t c16 h
      refine z_iconst (v := (4 : Int32)) C0 dX5_lookAtDigits_104 (by decide) ?_
      refine z_sub (lo1 := []) [] rfl ?_
      obtain rfl := h
      exact k_J17
    · have h := zif_f c16 h
      refine z_iconst (v := (2 : Int32)) C0 dX5_lookAtDigits_100 (by decide) ?_
      refine z_goto C0 105 dX5_lookAtDigits_101 (by decide) ?_
      refine z_sub (lo1 := []) [] rfl ?_
      obtain rfl := h
      exact k_J17
def f_X5_look_L8 (a0 : Nat) : Nat → zM → Option (zM)
  | 0, _ => none
  | n + 1, μ3 =>
    zbd (if (μ3 a0 5) ≤ (μ3 a0 7) then
        some false
      else
        zbd (f_X5_byteAt a0 (μ3 a0 7) μ3) fun r6 =>
        if r6 = (10 : Int32) then
          some true
        else
          zbd (f_X5_byteAt a0 (μ3 a0 7) μ3) fun r9 =>
          if ¬ r9 = (32 : Int32) then
            some false
          else
            some true) fun b11 =>
    if b11 = true then
      zl (zup μ3 a0 7 ((μ3 a0 7) + (1 : Int32))) fun μ12 =>
      f_X5_look_L8 a0 n μ12
    else
      some μ3
def f_X5_look_L100 (a0 : Nat) : Nat → zM → Option (zM)
  | 0, _ => none
  | n + 1, μ31 =>
    zbd (if (μ31 a0 5) ≤ (μ31 a0 8) then
        some false
      else
        zbd (f_X5_byteAt a0 (μ31 a0 8) μ31) fun r34 =>
        if (f_X5_isLetter r34) = 0 then
          some false
        else
          some true) fun b36 =>
    if b36 = true then
      zl (zup μ31 a0 8 ((μ31 a0 8) + (1 : Int32))) fun μ37 =>
      f_X5_look_L100 a0 n μ37
    else
      some μ31
def f_X5_look (a0 : Nat) (μ : zM) : Option (zM) :=
  zl (zup μ a0 7 (μ a0 8)) fun μ1 =>
  zbd (f_X5_look_L8 a0 zFU μ1) fun μ13 =>
  zl (zup μ13 a0 8 (μ13 a0 7)) fun μ14 =>
  zbd (f_X5_byteAt a0 (μ14 a0 7) μ14) fun r15 =>
  zbd (if ¬ r15 = (-1 : Int32) then
      if (f_X5_isLetter r15) = 0 then
        if (f_X5_isDigit r15) = 0 then
          zl (if ¬ r15 = (59 : Int32) then
              (4 : Int32)
            else
              (3 : Int32)) fun x25 =>
          zl (zup μ14 a0 6 x25) fun μ26 =>
          zl (zup μ26 a0 8 ((μ26 a0 8) + (1 : Int32))) fun μ27 =>
          some μ27
        else
          zbd (f_X5_lookAtDigits a0 μ14) fun μ28 =>
          some μ28
      else
        zl (zup μ14 a0 6 (1 : Int32)) fun μ29 =>
        zbd (f_X5_look_L100 a0 zFU μ29) fun μ38 =>
        some μ38
    else
      zl (zup μ14 a0 6 (0 : Int32)) fun μ39 =>
      some μ39) fun μ40 =>
  some μ40
set_option maxHeartbeats 4000000 in
set_option maxRecDepth 100000 in
theorem r_X5_look_L8 {l : Launch} {g : zL} {p : Program} {e : Env} {s : State} {m : MethodId} {args : Array Value} {below : List Frame} {meth : Method} {c : Code} {Q : State → Prop} (C0 : zC p s m args meth c g cX5_look yX5_look 2 none) (a0 : Nat) (hU2 : zT zNN zσ1 a0 5) : ∀ (n : Nat) (μ3 : zM) (μ13 : zM), f_X5_look_L8 a0 n μ3 = some μ13 → Z p l e (zrm 2 0 0) s m args below meth c g Q 2 zNN 0 0 zσ1 μ13 58 [(0, .ref (zb g + a0))] [] → Z p l e (zrm 2 0 0) s m args below meth c g Q 2 zNN 0 0 zσ1 μ3 8 [(0, .ref (zb g + a0))] [] := by
  intro n
  induction n with
  | zero =>
    intro μ3 μ13 h kx
    rw [f_X5_look_L8] at h
    cases h
  | succ n ih =>
    intro μ3 μ13 h kx
    rw [f_X5_look_L8] at h
    refine z_aload_n C0 dX5_look_8 rfl 0 rfl ?_
    refine z_geti C0 hU2.1 hU2.2.2.1 kf_5_79 zr_5_7 dX5_look_9 ?_
    refine z_aload_n C0 dX5_look_12 rfl 0 rfl ?_
    refine z_geti C0 hU2.1 hU2.2.2.1 kf_5_48 zr_5_5 dX5_look_13 ?_
    obtain ⟨b11, e_b11, h⟩ := zbd_of h
    refine z_joinb b11 μ3 45 58 [(0, .ref (zb g + a0))] [] (fun z43 => ?_) (fun z43 => ?_) (fun k41 k42 => ?_)
    · have h := zif_t z43 h
      refine z_aload_n C0 dX5_look_45 rfl 0 rfl ?_
      refine z_dup C0 dX5_look_46 rfl ?_
      refine z_geti C0 hU2.1 hU2.2.2.1 kf_5_79 zr_5_7 dX5_look_47 ?_
      refine z_iconst (v := (1 : Int32)) C0 dX5_look_50 (by decide) ?_
      refine z_iadd C0 dX5_look_51 ?_
      obtain ⟨μ12, e_μ12, h⟩ := zl_of h
      refine z_puti C0 hU2.1 hU2.2.2.1 kf_5_79 zp_5_7 zr_5_7 e_μ12 dX5_look_52 ?_
      refine z_goto C0 8 dX5_look_55 (by decide) ?_
      exact ih _ _ h kx
    · have h := zif_f (fun q => Bool.noConfusion (z43.symm.trans q)) h
      obtain rfl := (Option.some.inj h)
      exact kx
    · have h := e_b11
      refine z_icmp_ge C0 58 dX5_look_16 (by decide) (fun c4 => ?_) (fun c4 => ?_)
      · have h := zif_t c4 h
        exact k42 (Option.some.inj h).symm
      · have h := zif_f c4 h
        refine z_aload_n C0 dX5_look_19 rfl 0 rfl ?_
        refine z_aload_n C0 dX5_look_20 rfl 0 rfl ?_
        refine z_geti C0 hU2.1 hU2.2.2.1 kf_5_79 zr_5_7 dX5_look_21 ?_
        obtain ⟨r6, e_r6, h⟩ := zbd_of h
        refine z_callV (As := [.int (μ3 a0 7)]) (rest := []) C0 rfl kc_X5_byteAt km_RX5_82 (r_X5_byteAt (l := l) (g := g) a0 (μ3 a0 7) μ3 hU2 e_r6) hU2.1 hU2.2.2.1 rfl (by decide) rfl (Nat.le_of_ble_eq_true rfl) (Nat.le_of_ble_eq_true rfl) (Nat.le_of_ble_eq_true rfl) (Nat.le_of_ble_eq_true rfl) (Nat.le_refl _) rfl rfl dX5_look_24 ?_
        refine z_bipush (v := (10 : Int32)) C0 dX5_look_27 (by decide) ?_
        refine z_icmp_eq C0 45 dX5_look_29 (by decide) (fun c7 => ?_) (fun c7 => ?_)
        · have h := zif_t c7 h
          exact k41 (Option.some.inj h).symm
        · have h := zif_f c7 h
          refine z_aload_n C0 dX5_look_32 rfl 0 rfl ?_
          refine z_aload_n C0 dX5_look_33 rfl 0 rfl ?_
          refine z_geti C0 hU2.1 hU2.2.2.1 kf_5_79 zr_5_7 dX5_look_34 ?_
          obtain ⟨r9, e_r9, h⟩ := zbd_of h
          refine z_callV (As := [.int (μ3 a0 7)]) (rest := []) C0 rfl kc_X5_byteAt km_RX5_82 (r_X5_byteAt (l := l) (g := g) a0 (μ3 a0 7) μ3 hU2 e_r9) hU2.1 hU2.2.2.1 rfl (by decide) rfl (Nat.le_of_ble_eq_true rfl) (Nat.le_of_ble_eq_true rfl) (Nat.le_of_ble_eq_true rfl) (Nat.le_of_ble_eq_true rfl) (Nat.le_refl _) rfl rfl dX5_look_37 ?_
          refine z_bipush (v := (32 : Int32)) C0 dX5_look_40 (by decide) ?_
          refine z_icmp_ne C0 58 dX5_look_42 (by decide) (fun c10 => ?_) (fun c10 => ?_)
          · have h := zif_t c10 h
            exact k42 (Option.some.inj h).symm
          · have h := zif_f (fun q => q c10) h
            exact k41 (Option.some.inj h).symm
set_option maxHeartbeats 4000000 in
set_option maxRecDepth 100000 in
theorem r_X5_look_L100 {l : Launch} {g : zL} {p : Program} {e : Env} {s : State} {m : MethodId} {args : Array Value} {below : List Frame} {meth : Method} {c : Code} {Q : State → Prop} (C0 : zC p s m args meth c g cX5_look yX5_look 2 none) (a0 : Nat) (hU30 : zT zNN zσ1 a0 5) : ∀ (n : Nat) (μ31 : zM) (μ38 : zM), f_X5_look_L100 a0 n μ31 = some μ38 → Z p l e (zrm 2 0 0) s m args below meth c g Q 2 zNN 0 0 zσ1 μ38 177 [] [] → Z p l e (zrm 2 0 0) s m args below meth c g Q 2 zNN 0 0 zσ1 μ31 100 [(0, .ref (zb g + a0))] [] := by
  intro n
  induction n with
  | zero =>
    intro μ31 μ38 h kx
    rw [f_X5_look_L100] at h
    cases h
  | succ n ih =>
    intro μ31 μ38 h kx
    rw [f_X5_look_L100] at h
    refine z_aload_n C0 dX5_look_100 rfl 0 rfl ?_
    refine z_geti C0 hU30.1 hU30.2.2.1 kf_5_54 zr_5_8 dX5_look_101 ?_
    refine z_aload_n C0 dX5_look_104 rfl 0 rfl ?_
    refine z_geti C0 hU30.1 hU30.2.2.1 kf_5_48 zr_5_5 dX5_look_105 ?_
    obtain ⟨b36, e_b36, h⟩ := zbd_of h
    refine z_joinb b36 μ31 125 177 [(0, .ref (zb g + a0))] [] (fun z46 => ?_) (fun z46 => ?_) (fun k44 k45 => ?_)
    · have h := zif_t z46 h
      refine z_aload_n C0 dX5_look_125 rfl 0 rfl ?_
      refine z_dup C0 dX5_look_126 rfl ?_
      refine z_geti C0 hU30.1 hU30.2.2.1 kf_5_54 zr_5_8 dX5_look_127 ?_
      refine z_iconst (v := (1 : Int32)) C0 dX5_look_130 (by decide) ?_
      refine z_iadd C0 dX5_look_131 ?_
      obtain ⟨μ37, e_μ37, h⟩ := zl_of h
      refine z_puti C0 hU30.1 hU30.2.2.1 kf_5_54 zp_5_8 zr_5_8 e_μ37 dX5_look_132 ?_
      refine z_goto C0 100 dX5_look_135 (by decide) ?_
      exact ih _ _ h kx
    · have h := zif_f (fun q => Bool.noConfusion (z46.symm.trans q)) h
      refine z_sub (lo1 := []) [] rfl ?_
      obtain rfl := (Option.some.inj h)
      exact kx
    · have h := e_b36
      refine z_icmp_ge C0 177 dX5_look_108 (by decide) (fun c32 => ?_) (fun c32 => ?_)
      · have h := zif_t c32 h
        exact k45 (Option.some.inj h).symm
      · have h := zif_f c32 h
        refine z_aload_n C0 dX5_look_111 rfl 0 rfl ?_
        refine z_aload_n C0 dX5_look_112 rfl 0 rfl ?_
        refine z_geti C0 hU30.1 hU30.2.2.1 kf_5_54 zr_5_8 dX5_look_113 ?_
        obtain ⟨r34, e_r34, h⟩ := zbd_of h
        refine z_callV (As := [.int (μ31 a0 8)]) (rest := []) C0 rfl kc_X5_byteAt km_RX5_82 (r_X5_byteAt (l := l) (g := g) a0 (μ31 a0 8) μ31 hU30 e_r34) hU30.1 hU30.2.2.1 rfl (by decide) rfl (Nat.le_of_ble_eq_true rfl) (Nat.le_of_ble_eq_true rfl) (Nat.le_of_ble_eq_true rfl) (Nat.le_of_ble_eq_true rfl) (Nat.le_refl _) rfl rfl dX5_look_116 ?_
        refine z_callS (As := [.int r34]) (rest := []) C0 rfl kc_X5_isLetter km_RX5_85 (r_X5_isLetter (l := l) (g := g) (μ := μ31) r34 rfl) rfl (Nat.le_of_ble_eq_true rfl) (Nat.le_of_ble_eq_true rfl) (Nat.le_of_ble_eq_true rfl) (Nat.le_of_ble_eq_true rfl) (Nat.le_refl _) rfl rfl dX5_look_119 ?_
        refine z_if_eq C0 177 dX5_look_122 (by decide) (fun c35 => ?_) (fun c35 => ?_)
        · have h := zif_t c35 h
          exact k45 (Option.some.inj h).symm
        · have h := zif_f c35 h
          exact k44 (Option.some.inj h).symm
set_option maxHeartbeats 4000000 in
set_option maxRecDepth 100000 in
theorem r_X5_look {l : Launch} {g : zL} (a0 : Nat) (μ : zM) (hT0 : zT zNN zσ1 a0 5) {μr : zM} (h : f_X5_look a0 μ = some μr) : zMet l g yX5_look cX5_look 2 none 2 0 0 zNN zNN zσ1 zσ1 [.ref (zb g + a0)] μ none μr := by
  refine zMet.of (by decide +kernel) (Nat.le_of_ble_eq_true rfl) ?_
  intro p e s m args below meth c C0
  refine z_loc (lo1 := [(0, .ref (zb g + a0))]) rfl ?_
  unfold f_X5_look at h
  refine z_aload_n C0 dX5_look_0 rfl 0 rfl ?_
  refine z_aload_n C0 dX5_look_1 rfl 0 rfl ?_
  refine z_geti C0 hT0.1 hT0.2.2.1 kf_5_54 zr_5_8 dX5_look_2 ?_
  obtain ⟨μ1, e_μ1, h⟩ := zl_of h
  refine z_puti C0 hT0.1 hT0.2.2.1 kf_5_79 zp_5_7 zr_5_7 e_μ1 dX5_look_5 ?_
  obtain ⟨μ13, e_μ13, h⟩ := zbd_of h
  refine r_X5_look_L8 C0 a0 hT0 zFU μ1 μ13 e_μ13 ?_
  refine z_aload_n C0 dX5_look_58 rfl 0 rfl ?_
  refine z_aload_n C0 dX5_look_59 rfl 0 rfl ?_
  refine z_geti C0 hT0.1 hT0.2.2.1 kf_5_79 zr_5_7 dX5_look_60 ?_
  obtain ⟨μ14, e_μ14, h⟩ := zl_of h
  refine z_puti C0 hT0.1 hT0.2.2.1 kf_5_54 zp_5_8 zr_5_8 e_μ14 dX5_look_63 ?_
  refine z_aload_n C0 dX5_look_66 rfl 0 rfl ?_
  refine z_aload_n C0 dX5_look_67 rfl 0 rfl ?_
  refine z_geti C0 hT0.1 hT0.2.2.1 kf_5_79 zr_5_7 dX5_look_68 ?_
  obtain ⟨r15, e_r15, h⟩ := zbd_of h
  refine z_callV (As := [.int (μ14 a0 7)]) (rest := []) C0 rfl kc_X5_byteAt km_RX5_82 (r_X5_byteAt (l := l) (g := g) a0 (μ14 a0 7) μ14 hT0 e_r15) hT0.1 hT0.2.2.1 rfl (by decide) rfl (Nat.le_of_ble_eq_true rfl) (Nat.le_of_ble_eq_true rfl) (Nat.le_of_ble_eq_true rfl) (Nat.le_of_ble_eq_true rfl) (Nat.le_refl _) rfl rfl dX5_look_71 ?_
  refine z_istore_n (lo1 := [(1, .int r15), (0, .ref (zb g + a0))]) C0 dX5_look_74 rfl (by decide) rfl ?_
  refine z_iload_n C0 dX5_look_75 rfl 0 rfl ?_
  refine z_iconst (v := (-1 : Int32)) C0 dX5_look_76 (by decide) ?_
  obtain ⟨μ40, e_μ40, h⟩ := zbd_of h
  refine z_join μ40 177 [] [] ?_ (fun k_J19 => ?_)
  · have h := Option.some.inj h
    obtain rfl := h
    exact z_vret C0 rfl dX5_look_177
  · have h := e_μ40
    refine z_icmp_ne C0 88 dX5_look_77 (by decide) (fun c16 => ?_) (fun c16 => ?_)
    · have h := zif_t c16 h
      refine z_iload_n C0 dX5_look_88 rfl 0 rfl ?_
      refine z_callS (As := [.int r15]) (rest := []) C0 rfl kc_X5_isLetter km_RX5_85 (r_X5_isLetter (l := l) (g := g) (μ := μ14) r15 rfl) rfl (Nat.le_of_ble_eq_true rfl) (Nat.le_of_ble_eq_true rfl) (Nat.le_of_ble_eq_true rfl) (Nat.le_of_ble_eq_true rfl) (Nat.le_refl _) rfl rfl dX5_look_89 ?_
      refine z_if_eq C0 138 dX5_look_92 (by decide) (fun c20 => ?_) (fun c20 => ?_)
      · have h := zif_t c20 h
        refine z_iload_n C0 dX5_look_138 rfl 0 rfl ?_
        refine z_callS (As := [.int r15]) (rest := []) C0 rfl kc_X5_isDigit km_RX5_89 (r_X5_isDigit (l := l) (g := g) (μ := μ14) r15 rfl) rfl (Nat.le_of_ble_eq_true rfl) (Nat.le_of_ble_eq_true rfl) (Nat.le_of_ble_eq_true rfl) (Nat.le_of_ble_eq_true rfl) (Nat.le_refl _) rfl rfl dX5_look_139 ?_
        refine z_if_eq C0 152 dX5_look_142 (by decide) (fun c22 => ?_) (fun c22 => ?_)
        · have h := zif_t c22 h
          refine z_aload_n C0 dX5_look_152 rfl 1 rfl ?_
          refine z_iload_n C0 dX5_look_153 rfl 0 rfl ?_
          refine z_bipush (v := (59 : Int32)) C0 dX5_look_154 (by decide) ?_
          obtain ⟨x25, e_x25, h⟩ := zl_of h
          refine z_join μ14 164 [(0, .ref (zb g + a0))] [.int x25, .ref (zb g + a0)] ?_ (fun k_J24 => ?_)
          · obtain ⟨μ26, e_μ26, h⟩ := zl_of h
            refine z_puti C0 hT0.1 hT0.2.2.1 kf_5_66 zp_5_6 zr_5_6 e_μ26 dX5_look_164 ?_
            refine z_aload_n C0 dX5_look_167 rfl 0 rfl ?_
            refine z_dup C0 dX5_look_168 rfl ?_
            refine z_geti C0 hT0.1 hT0.2.2.1 kf_5_54 zr_5_8 dX5_look_169 ?_
            refine z_iconst (v := (1 : Int32)) C0 dX5_look_172 (by decide) ?_
            refine z_iadd C0 dX5_look_173 ?_
            obtain ⟨μ27, e_μ27, h⟩ := zl_of h
            refine z_puti C0 hT0.1 hT0.2.2.1 kf_5_54 zp_5_8 zr_5_8 e_μ27 dX5_look_174 ?_
            refine z_sub (lo1 := []) [] rfl ?_
            obtain rfl := (Option.some.inj h)
            exact k_J19
          · have h := e_x25.symm
            refine z_icmp_ne C0 163 dX5_look_156 (by decide) (fun c23 => ?_) (fun c23 => ?_)
            · have h := zif_t c23 h
              refine z_iconst (v := (4 : Int32)) C0 dX5_look_163 (by decide) ?_
              refine z_sub (lo1 := [(0, .ref (zb g + a0))]) [1] rfl ?_
              obtain rfl := h
              exact k_J24
            · have h := zif_f (fun q => q c23) h
              refine z_iconst (v := (3 : Int32)) C0 dX5_look_159 (by decide) ?_
              refine z_goto C0 164 dX5_look_160 (by decide) ?_
              refine z_sub (lo1 := [(0, .ref (zb g + a0))]) [1] rfl ?_
              obtain rfl := h
              exact k_J24
        · have h := zif_f c22 h
          refine z_aload_n C0 dX5_look_145 rfl 1 rfl ?_
          obtain ⟨μ28, e_μ28, h⟩ := zbd_of h
          refine z_callV (As := []) (rest := []) C0 rfl kc_X5_lookAtDigits km_RX5_92 (r_X5_lookAtDigits (l := l) (g := g) a0 μ14 hT0 e_μ28) hT0.1 hT0.2.2.1 rfl (by decide) rfl (Nat.le_of_ble_eq_true rfl) (Nat.le_of_ble_eq_true rfl) (Nat.le_of_ble_eq_true rfl) (Nat.le_of_ble_eq_true rfl) (Nat.le_refl _) rfl rfl dX5_look_146 ?_
          refine z_goto C0 177 dX5_look_149 (by decide) ?_
          refine z_sub (lo1 := []) [] rfl ?_
          obtain rfl := (Option.some.inj h)
          exact k_J19
      · have h := zif_f c20 h
        refine z_aload_n C0 dX5_look_95 rfl 1 rfl ?_
        refine z_iconst (v := (1 : Int32)) C0 dX5_look_96 (by decide) ?_
        obtain ⟨μ29, e_μ29, h⟩ := zl_of h
        refine z_puti C0 hT0.1 hT0.2.2.1 kf_5_66 zp_5_6 zr_5_6 e_μ29 dX5_look_97 ?_
        refine z_sub (lo1 := [(0, .ref (zb g + a0))]) [1] rfl ?_
        obtain ⟨μ38, e_μ38, h⟩ := zbd_of h
        refine r_X5_look_L100 C0 a0 hT0 zFU μ29 μ38 e_μ38 ?_
        obtain rfl := (Option.some.inj h)
        exact k_J19
    · have h := zif_f (fun q => q c16) h
      refine z_aload_n C0 dX5_look_80 rfl 1 rfl ?_
      refine z_iconst (v := (0 : Int32)) C0 dX5_look_81 (by decide) ?_
      obtain ⟨μ39, e_μ39, h⟩ := zl_of h
      refine z_puti C0 hT0.1 hT0.2.2.1 kf_5_66 zp_5_6 zr_5_6 e_μ39 dX5_look_82 ?_
      refine z_goto C0 177 dX5_look_85 (by decide) ?_
      refine z_sub (lo1 := []) [] rfl ?_
      obtain rfl := (Option.some.inj h)
      exact k_J19
def f_X5_isSpelled_L20 (a0 : Nat) (u1 : Nat) (μ5 : zM) : Nat → Int32 → Option ((Int32) ⊕ (Unit))
  | 0, _ => none
  | n + 1, y4 =>
    if (Int32.ofNat (zWl u1).length) ≤ y4 then
      some (.inr ())
    else
      zg (zin y4 (zWl u1).length) <|
      zbd (f_X5_byteAt a0 ((μ5 a0 7) + y4) μ5) fun r15 =>
      if ((zWl u1).getD y4.toNatClampNeg 0) = r15 then
        zl (y4 + (1 : Int32)) fun x17 =>
        f_X5_isSpelled_L20 a0 u1 μ5 n x17
      else
        some (.inl (0 : Int32))
def f_X5_isSpelled (a0 : Nat) (u1 : Nat) (μ : zM) : Option (Int32) :=
  if (Int32.ofNat (zWl u1).length) = ((μ a0 8) - (μ a0 7)) then
    zbd (f_X5_isSpelled_L20 a0 u1 μ zFU (0 : Int32)) fun q18 => zsum q18 (fun t => some t) fun _ =>
    some (1 : Int32)
  else
    some (0 : Int32)
set_option maxHeartbeats 4000000 in
set_option maxRecDepth 100000 in
theorem r_X5_isSpelled_L20 {l : Launch} {g : zL} {κ : zK} {p : Program} {e : Env} {s : State} {m : MethodId} {args : Array Value} {below : List Frame} {meth : Method} {c : Code} {rv : Int32} (C0 : zC p s m args meth c g cX5_isSpelled yX5_isSpelled 3 (some (.boolean))) (hSp : zSK g κ) (a0 : Nat) (u1 : Nat) (μ5 : zM) (hU2 : zT zNN zσ1 a0 5) (hW3 : u1 < 30) : ∀ (n : Nat) (y4 : Int32) (q : (Int32) ⊕ (Unit)), f_X5_isSpelled_L20 a0 u1 μ5 n y4 = some q → (∀ t, q = Sum.inl t → t = rv) → (∀ o, q = Sum.inr o → Z p l e (zrm 4 0 0) s m args below meth c g (MQ below (zQ g zNN zσ1 (some (.int rv)) μ5) args s 0 0 (zA g)) 3 zNN 0 0 zσ1 ((fun _ => μ5) o) 54 ((fun o => []) o) []) → Z p l e (zrm 4 0 0) s m args below meth c g (MQ below (zQ g zNN zσ1 (some (.int rv)) μ5) args s 0 0 (zA g)) 3 zNN 0 0 zσ1 μ5 20 [(0, .ref (zb g + a0)), (1, .ref (ksd κ u1)), (2, .int y4)] [] := by
  have hF := hSp.at C0
  intro n
  induction n with
  | zero =>
    intro y4 q h kr kx
    rw [f_X5_isSpelled_L20] at h
    cases h
  | succ n ih =>
    intro y4 q h kr kx
    rw [f_X5_isSpelled_L20] at h
    refine z_iload_n C0 dX5_isSpelled_20 rfl 2 rfl ?_
    refine z_aload_n C0 dX5_isSpelled_21 rfl 1 rfl ?_
    refine z_callVO (As := []) (rest := [.int y4]) C0 rfl kc_J0_length_8abf5 km_RX5_115 (r_J0_length u1 hW3 hSp) (hF.2.2.2.2.2.1 u1 hW3).1 rfl (Nat.le_of_ble_eq_true rfl) (Nat.le_of_ble_eq_true rfl) (Nat.le_of_ble_eq_true rfl) (Nat.le_of_ble_eq_true rfl) rfl rfl dX5_isSpelled_22 ?_
    refine z_icmp_ge C0 54 dX5_isSpelled_25 (by decide) (fun c6 => ?_) (fun c6 => ?_)
    · have h := zif_t c6 h
      refine z_sub (lo1 := []) [] rfl ?_
      exact kx () (Option.some.inj h).symm
    · have h := zif_f c6 h
      refine z_aload_n C0 dX5_isSpelled_28 rfl 1 rfl ?_
      refine z_iload_n C0 dX5_isSpelled_29 rfl 2 rfl ?_
      obtain ⟨g14, h⟩ := zg_of h
      refine z_callVO (As := [.int y4]) (rest := []) C0 rfl kc_J0_charAt_5068e km_RX5_119 (r_J0_charAt u1 y4 hW3 g14 hSp) (hF.2.2.2.2.2.1 u1 hW3).1 rfl (Nat.le_of_ble_eq_true rfl) (Nat.le_of_ble_eq_true rfl) (Nat.le_of_ble_eq_true rfl) (Nat.le_of_ble_eq_true rfl) rfl rfl dX5_isSpelled_30 ?_
      refine z_aload_n C0 dX5_isSpelled_33 rfl 0 rfl ?_
      refine z_aload_n C0 dX5_isSpelled_34 rfl 0 rfl ?_
      refine z_geti C0 hU2.1 hU2.2.2.1 kf_5_79 zr_5_7 dX5_isSpelled_35 ?_
      refine z_iload_n C0 dX5_isSpelled_38 rfl 2 rfl ?_
      refine z_iadd C0 dX5_isSpelled_39 ?_
      obtain ⟨r15, e_r15, h⟩ := zbd_of h
      refine z_callV (As := [.int ((μ5 a0 7) + y4)]) (rest := [.int ((zWl u1).getD y4.toNatClampNeg 0)]) C0 rfl kc_X5_byteAt km_RX5_82 (r_X5_byteAt (l := l) (g := g) a0 ((μ5 a0 7) + y4) μ5 hU2 e_r15) hU2.1 hU2.2.2.1 rfl (by decide) rfl (Nat.le_of_ble_eq_true rfl) (Nat.le_of_ble_eq_true rfl) (Nat.le_of_ble_eq_true rfl) (Nat.le_of_ble_eq_true rfl) (Nat.le_refl _) rfl rfl dX5_isSpelled_40 ?_
      refine z_icmp_eq C0 48 dX5_isSpelled_43 (by decide) (fun c16 => ?_) (fun c16 => ?_)
      · have h := zif_t c16 h
        obtain ⟨x17, e_x17, h⟩ := zl_of h
        refine z_iinc (lo1 := [(2, .int x17), (0, .ref (zb g + a0)), (1, .ref (ksd κ u1))]) C0 dX5_isSpelled_48 2 rfl (by decide) e_x17.symm (by decide) rfl ?_
        refine z_goto C0 20 dX5_isSpelled_51 (by decide) ?_
        refine z_sub (lo1 := [(0, .ref (zb g + a0)), (1, .ref (ksd κ u1)), (2, .int x17)]) [1, 2, 0] rfl ?_
        exact ih _ _ h kr kx
      · have h := zif_f c16 h
        refine z_iconst (v := (0 : Int32)) C0 dX5_isSpelled_46 (by decide) ?_
        have h := kr _ (Option.some.inj h).symm
        obtain rfl := h
        exact z_zret C0 rfl (by decide) dX5_isSpelled_47
set_option maxHeartbeats 4000000 in
set_option maxRecDepth 100000 in
theorem r_X5_isSpelled {l : Launch} {g : zL} {κ : zK} (a0 : Nat) (u1 : Nat) (μ : zM) (hT0 : zT zNN zσ1 a0 5) (hW1 : u1 < 30) (hSp : zSK g κ) {rv : Int32} (h : f_X5_isSpelled a0 u1 μ = some rv) : zMet l g yX5_isSpelled cX5_isSpelled 3 (some (.boolean)) 4 0 0 zNN zNN zσ1 zσ1 [.ref (zb g + a0), .ref (ksd κ u1)] μ (some (.int rv)) μ := by
  refine zMet.of (by decide +kernel) (Nat.le_of_ble_eq_true rfl) ?_
  intro p e s m args below meth c C0
  have hF := hSp.at C0
  refine z_loc (lo1 := [(0, .ref (zb g + a0)), (1, .ref (ksd κ u1))]) rfl ?_
  unfold f_X5_isSpelled at h
  refine z_aload_n C0 dX5_isSpelled_0 rfl 1 rfl ?_
  refine z_callVO (As := []) (rest := []) C0 rfl kc_J0_length_8abf5 km_RX5_115 (r_J0_length u1 hW1 hSp) (hF.2.2.2.2.2.1 u1 hW1).1 rfl (Nat.le_of_ble_eq_true rfl) (Nat.le_of_ble_eq_true rfl) (Nat.le_of_ble_eq_true rfl) (Nat.le_of_ble_eq_true rfl) rfl rfl dX5_isSpelled_1 ?_
  refine z_aload_n C0 dX5_isSpelled_4 rfl 0 rfl ?_
  refine z_geti C0 hT0.1 hT0.2.2.1 kf_5_54 zr_5_8 dX5_isSpelled_5 ?_
  refine z_aload_n C0 dX5_isSpelled_8 rfl 0 rfl ?_
  refine z_geti C0 hT0.1 hT0.2.2.1 kf_5_79 zr_5_7 dX5_isSpelled_9 ?_
  refine z_isub C0 dX5_isSpelled_12 ?_
  refine z_icmp_eq C0 18 dX5_isSpelled_13 (by decide) (fun c1 => ?_) (fun c1 => ?_)
  · have h := zif_t c1 h
    refine z_iconst (v := (0 : Int32)) C0 dX5_isSpelled_18 (by decide) ?_
    refine z_istore_n (lo1 := [(2, .int (0 : Int32)), (0, .ref (zb g + a0)), (1, .ref (ksd κ u1))]) C0 dX5_isSpelled_19 rfl (by decide) rfl ?_
    refine z_sub (lo1 := [(0, .ref (zb g + a0)), (1, .ref (ksd κ u1)), (2, .int (0 : Int32))]) [1, 2, 0] rfl ?_
    obtain ⟨q18, e_q18, h⟩ := zbd_of h
    refine r_X5_isSpelled_L20 C0 hSp a0 u1 μ hT0 hW1 zFU (0 : Int32) q18 e_q18 ?_ ?_
    · intro t ht
      have h := zsum_l h _ ht
      exact Option.some.inj h
    · intro u_ hq
      have h := zsum_r h _ hq
      refine z_iconst (v := (1 : Int32)) C0 dX5_isSpelled_54 (by decide) ?_
      have h := Option.some.inj h
      obtain rfl := h
      exact z_zret C0 rfl (by decide) dX5_isSpelled_55
  · have h := zif_f c1 h
    refine z_iconst (v := (0 : Int32)) C0 dX5_isSpelled_16 (by decide) ?_
    have h := Option.some.inj h
    obtain rfl := h
    exact z_zret C0 rfl (by decide) dX5_isSpelled_17
def f_X5_wordOf_L12 (a0 : Nat) (v1 : Int32) (μ4 : zM) : Nat → Int32 → Option ((Option Nat) ⊕ (Unit))
  | 0, _ => none
  | n + 1, y3 =>
    if (30 : Int32) ≤ y3 then
      some (.inr ())
    else
      zg (zin y3 30) <|
      zbd (if ¬ (f_X10_sort (y3.toNatClampNeg)) = v1 then
          some false
        else
          zbd (f_X5_isSpelled a0 (y3.toNatClampNeg) μ4) fun r18 =>
          if r18 = 0 then
            some false
          else
            some true) fun b20 =>
      if b20 = true then
        some (.inl (some (y3.toNatClampNeg)))
      else
        zl (y3 + (1 : Int32)) fun x21 =>
        f_X5_wordOf_L12 a0 v1 μ4 n x21
def f_X5_wordOf (a0 : Nat) (v1 : Int32) (μ : zM) : Option (Option Nat) :=
  if (μ a0 6) = (1 : Int32) then
    zbd (f_X5_wordOf_L12 a0 v1 μ zFU (0 : Int32)) fun q22 => zsum q22 (fun t => some t) fun _ =>
    some none
  else
    some none
set_option maxHeartbeats 4000000 in
set_option maxRecDepth 100000 in
theorem r_X5_wordOf_L12 {l : Launch} {g : zL} {κ : zK} {p : Program} {e : Env} {s : State} {m : MethodId} {args : Array Value} {below : List Frame} {meth : Method} {c : Code} {rv : Option Nat} (C0 : zC p s m args meth c g cX5_wordOf yX5_wordOf 3 (some (.object "GraveRegatta$Word"))) (hSp : zSK g κ) (a0 : Nat) (v1 : Int32) (μ4 : zM) (hU2 : zT zNN zσ1 a0 5) : ∀ (n : Nat) (y3 : Int32) (q : (Option Nat) ⊕ (Unit)), f_X5_wordOf_L12 a0 v1 μ4 n y3 = some q → (∀ t, q = Sum.inl t → t = rv) → (∀ o, q = Sum.inr o → Z p l e (zrm 5 0 0) s m args below meth c g (MQ below (zQ g zNN zσ1 (some (zoptW κ rv)) μ4) args s 0 0 (zA g)) 3 zNN 0 0 zσ1 ((fun _ => μ4) o) 59 ((fun o => []) o) []) → Z p l e (zrm 5 0 0) s m args below meth c g (MQ below (zQ g zNN zσ1 (some (zoptW κ rv)) μ4) args s 0 0 (zA g)) 3 zNN 0 0 zσ1 μ4 12 [(0, .ref (zb g + a0)), (1, .int v1), (2, .int y3)] [] := by
  have hF := hSp.at C0
  intro n
  induction n with
  | zero =>
    intro y3 q h kr kx
    rw [f_X5_wordOf_L12] at h
    cases h
  | succ n ih =>
    intro y3 q h kr kx
    rw [f_X5_wordOf_L12] at h
    refine z_iload_n C0 dX5_wordOf_12 rfl 2 rfl ?_
    refine z_gets C0 hF.2.2.1.1 kl_5_98 dX5_wordOf_13 ?_
    refine z_alenT C0 hF.2.2.1.2 (v := (30 : Int32)) (by decide) dX5_wordOf_16 ?_
    refine z_icmp_ge C0 59 dX5_wordOf_17 (by decide) (fun c5 => ?_) (fun c5 => ?_)
    · have h := zif_t c5 h
      refine z_sub (lo1 := []) [] rfl ?_
      exact kx () (Option.some.inj h).symm
    · have h := zif_f c5 h
      refine z_gets C0 hF.2.2.1.1 kl_5_98 dX5_wordOf_20 ?_
      refine z_iload_n C0 dX5_wordOf_23 rfl 2 rfl ?_
      obtain ⟨g15, h⟩ := zg_of h
      refine z_aaldT C0 hF.2.2.1.2 g15 rfl dX5_wordOf_24 ?_
      refine z_callVON (As := []) (rest := []) C0 rfl kc_X10_sort (hF.2.2.2.2.2.2.2.1 _ (List.mem_of_getElem? (i := 4) rfl)) (r_X10_sort (l := l) (g := g) (μ := μ4) (y3.toNatClampNeg) (zin_lt g15) hSp rfl) (hF.2.2.2.1 (y3.toNatClampNeg) (zin_lt g15)).2.1 rfl (Nat.le_of_ble_eq_true rfl) (Nat.le_of_ble_eq_true rfl) (Nat.le_of_ble_eq_true rfl) (Nat.le_of_ble_eq_true rfl) rfl rfl dX5_wordOf_25 ?_
      refine z_iload_n C0 dX5_wordOf_28 rfl 1 rfl ?_
      obtain ⟨b20, e_b20, h⟩ := zbd_of h
      refine z_joinb b20 μ4 47 53 [(0, .ref (zb g + a0)), (1, .int v1), (2, .int y3)] [] (fun z25 => ?_) (fun z25 => ?_) (fun k23 k24 => ?_)
      · have h := zif_t z25 h
        refine z_gets C0 hF.2.2.1.1 kl_5_98 dX5_wordOf_47 ?_
        refine z_iload_n C0 dX5_wordOf_50 rfl 2 rfl ?_
        refine z_aaldT C0 hF.2.2.1.2 g15 rfl dX5_wordOf_51 ?_
        have h := kr _ (Option.some.inj h).symm
        obtain rfl := h
        exact z_aret (v := zoptW κ (some (y3.toNatClampNeg))) C0 rfl (zoptW_or _ _) dX5_wordOf_52
      · have h := zif_f (fun q => Bool.noConfusion (z25.symm.trans q)) h
        obtain ⟨x21, e_x21, h⟩ := zl_of h
        refine z_iinc (lo1 := [(2, .int x21), (0, .ref (zb g + a0)), (1, .int v1)]) C0 dX5_wordOf_53 2 rfl (by decide) e_x21.symm (by decide) rfl ?_
        refine z_goto C0 12 dX5_wordOf_56 (by decide) ?_
        refine z_sub (lo1 := [(0, .ref (zb g + a0)), (1, .int v1), (2, .int x21)]) [1, 2, 0] rfl ?_
        exact ih _ _ h kr kx
      · have h := e_b20
        refine z_icmp_ne C0 53 dX5_wordOf_29 (by decide) (fun c16 => ?_) (fun c16 => ?_)
        · have h := zif_t c16 h
          exact k24 (Option.some.inj h).symm
        · have h := zif_f (fun q => q c16) h
          refine z_aload_n C0 dX5_wordOf_32 rfl 0 rfl ?_
          refine z_gets C0 hF.2.2.1.1 kl_5_98 dX5_wordOf_33 ?_
          refine z_iload_n C0 dX5_wordOf_36 rfl 2 rfl ?_
          refine z_aaldT C0 hF.2.2.1.2 g15 rfl dX5_wordOf_37 ?_
          refine z_getON C0 (hF.2.2.2.1 (y3.toNatClampNeg) (zin_lt g15)).2.2.2.2.2.2 hF.2.2.2.2.2.2.2.2 dX5_wordOf_38 ?_
          obtain ⟨r18, e_r18, h⟩ := zbd_of h
          refine z_callV (As := [.ref (ksd κ (y3.toNatClampNeg))]) (rest := []) C0 rfl kc_X5_isSpelled km_RX5_111 (r_X5_isSpelled (l := l) (g := g) a0 (y3.toNatClampNeg) μ4 hU2 (zin_lt g15) hSp e_r18) hU2.1 hU2.2.2.1 rfl (by decide) rfl (Nat.le_of_ble_eq_true rfl) (Nat.le_of_ble_eq_true rfl) (Nat.le_of_ble_eq_true rfl) (Nat.le_of_ble_eq_true rfl) (Nat.le_refl _) rfl rfl dX5_wordOf_41 ?_
          refine z_if_eq C0 53 dX5_wordOf_44 (by decide) (fun c19 => ?_) (fun c19 => ?_)
          · have h := zif_t c19 h
            exact k24 (Option.some.inj h).symm
          · have h := zif_f c19 h
            exact k23 (Option.some.inj h).symm
set_option maxHeartbeats 4000000 in
set_option maxRecDepth 100000 in
theorem r_X5_wordOf {l : Launch} {g : zL} {κ : zK} (a0 : Nat) (v1 : Int32) (μ : zM) (hT0 : zT zNN zσ1 a0 5) (hSp : zSK g κ) {rv : Option Nat} (h : f_X5_wordOf a0 v1 μ = some rv) : zMet l g yX5_wordOf cX5_wordOf 3 (some (.object "GraveRegatta$Word")) 5 0 0 zNN zNN zσ1 zσ1 [.ref (zb g + a0), .int v1] μ (some (zoptW κ rv)) μ := by
  refine zMet.of (by decide +kernel) (Nat.le_of_ble_eq_true rfl) ?_
  intro p e s m args below meth c C0
  have hF := hSp.at C0
  refine z_loc (lo1 := [(0, .ref (zb g + a0)), (1, .int v1)]) rfl ?_
  unfold f_X5_wordOf at h
  refine z_aload_n C0 dX5_wordOf_0 rfl 0 rfl ?_
  refine z_geti C0 hT0.1 hT0.2.2.1 kf_5_66 zr_5_6 dX5_wordOf_1 ?_
  refine z_iconst (v := (1 : Int32)) C0 dX5_wordOf_4 (by decide) ?_
  refine z_icmp_eq C0 10 dX5_wordOf_5 (by decide) (fun c1 => ?_) (fun c1 => ?_)
  · have h := zif_t c1 h
    refine z_iconst (v := (0 : Int32)) C0 dX5_wordOf_10 (by decide) ?_
    refine z_istore_n (lo1 := [(2, .int (0 : Int32)), (0, .ref (zb g + a0)), (1, .int v1)]) C0 dX5_wordOf_11 rfl (by decide) rfl ?_
    refine z_sub (lo1 := [(0, .ref (zb g + a0)), (1, .int v1), (2, .int (0 : Int32))]) [1, 2, 0] rfl ?_
    obtain ⟨q22, e_q22, h⟩ := zbd_of h
    refine r_X5_wordOf_L12 C0 hSp a0 v1 μ hT0 zFU (0 : Int32) q22 e_q22 ?_ ?_
    · intro t ht
      have h := zsum_l h _ ht
      exact Option.some.inj h
    · intro u_ hq
      have h := zsum_r h _ hq
      refine z_anull C0 dX5_wordOf_59 ?_
      have h := Option.some.inj h
      obtain rfl := h
      exact z_aret (v := zoptW κ none) C0 rfl (zoptW_or _ _) dX5_wordOf_60
  · have h := zif_f c1 h
    refine z_anull C0 dX5_wordOf_8 ?_
    have h := Option.some.inj h
    obtain rfl := h
    exact z_aret (v := zoptW κ none) C0 rfl (zoptW_or _ _) dX5_wordOf_9
def f_X5_breakOff (a0 : Nat) (μ : zM) : zM :=
  zl (zup μ a0 2 (1 : Int32)) fun μ1 =>
  zl (zup μ1 a0 3 (μ1 a0 7)) fun μ2 =>
  μ2
set_option maxHeartbeats 4000000 in
set_option maxRecDepth 100000 in
theorem r_X5_breakOff {l : Launch} {g : zL} (a0 : Nat) (μ : zM) (hT0 : zT zNN zσ1 a0 5) {μr : zM} (h : f_X5_breakOff a0 μ = μr) : zMet l g yX5_breakOff cX5_breakOff 1 none 0 0 0 zNN zNN zσ1 zσ1 [.ref (zb g + a0)] μ none μr := by
  refine zMet.of (by decide +kernel) (Nat.le_of_ble_eq_true rfl) ?_
  intro p e s m args below meth c C0
  refine z_loc (lo1 := [(0, .ref (zb g + a0))]) rfl ?_
  unfold f_X5_breakOff at h
  refine z_aload_n C0 dX5_breakOff_0 rfl 0 rfl ?_
  refine z_iconst (v := (1 : Int32)) C0 dX5_breakOff_1 (by decide) ?_
  obtain ⟨μ1, e_μ1, h⟩ := zl_of h
  refine z_puti C0 hT0.1 hT0.2.2.1 kf_5_51 zp_5_2 zr_5_2 e_μ1 dX5_breakOff_2 ?_
  refine z_aload_n C0 dX5_breakOff_5 rfl 0 rfl ?_
  refine z_aload_n C0 dX5_breakOff_6 rfl 0 rfl ?_
  refine z_geti C0 hT0.1 hT0.2.2.1 kf_5_79 zr_5_7 dX5_breakOff_7 ?_
  obtain ⟨μ2, e_μ2, h⟩ := zl_of h
  refine z_puti C0 hT0.1 hT0.2.2.1 kf_5_24 zp_5_3 zr_5_3 e_μ2 dX5_breakOff_10 ?_
  skip
  obtain rfl := h
  exact z_vret C0 rfl dX5_breakOff_13
def f_X5_note (a0 : Nat) (v1 : Int32) (v2 : Int32) (μ : zM) : zM :=
  zl (if ((μ a0 2) = 0) ∨ ((¬ ((μ a0 2) = (1 : Int32))) ∧ ((v2 < (μ a0 3)) ∨ ((v2 = (μ a0 3)) ∧ (¬ ((μ a0 2) ≤ v1))))) then
      zl (zup μ a0 2 v1) fun μ7 =>
      zl (zup μ7 a0 3 v2) fun μ8 =>
      μ8
    else
      μ) fun μ9 =>
  μ9
set_option maxHeartbeats 4000000 in
set_option maxRecDepth 100000 in
theorem r_X5_note {l : Launch} {g : zL} (a0 : Nat) (v1 : Int32) (v2 : Int32) (μ : zM) (hT0 : zT zNN zσ1 a0 5) {μr : zM} (h : f_X5_note a0 v1 v2 μ = μr) : zMet l g yX5_note cX5_note 3 none 0 0 0 zNN zNN zσ1 zσ1 [.ref (zb g + a0), .int v1, .int v2] μ none μr := by
  refine zMet.of (by decide +kernel) (Nat.le_of_ble_eq_true rfl) ?_
  intro p e s m args below meth c C0
  refine z_loc (lo1 := [(0, .ref (zb g + a0)), (1, .int v1), (2, .int v2)]) rfl ?_
  unfold f_X5_note at h
  refine z_aload_n C0 dX5_note_0 rfl 0 rfl ?_
  refine z_geti C0 hT0.1 hT0.2.2.1 kf_5_51 zr_5_2 dX5_note_1 ?_
  obtain ⟨μ9, e_μ9, h⟩ := zl_of h
  refine z_join μ9 49 [] [] ?_ (fun k_J6 => ?_)
  · skip
    obtain rfl := h
    exact z_vret C0 rfl dX5_note_49
  · have h := e_μ9.symm
    by_cases hc10 : ((μ a0 2) = 0) ∨ ((¬ ((μ a0 2) = (1 : Int32))) ∧ ((v2 < (μ a0 3)) ∨ ((v2 = (μ a0 3)) ∧ (¬ ((μ a0 2) ≤ v1)))))
    · have h := zif_t hc10 h
      refine z_join μ 39 [(0, .ref (zb g + a0)), (1, .int v1), (2, .int v2)] [] ?_ (fun k11 => ?_)
      · refine z_aload_n C0 dX5_note_39 rfl 0 rfl ?_
        refine z_iload_n C0 dX5_note_40 rfl 1 rfl ?_
        obtain ⟨μ7, e_μ7, h⟩ := zl_of h
        refine z_puti C0 hT0.1 hT0.2.2.1 kf_5_51 zp_5_2 zr_5_2 e_μ7 dX5_note_41 ?_
        refine z_aload_n C0 dX5_note_44 rfl 0 rfl ?_
        refine z_iload_n C0 dX5_note_45 rfl 2 rfl ?_
        obtain ⟨μ8, e_μ8, h⟩ := zl_of h
        refine z_puti C0 hT0.1 hT0.2.2.1 kf_5_24 zp_5_3 zr_5_3 e_μ8 dX5_note_46 ?_
        refine z_sub (lo1 := []) [] rfl ?_
        obtain rfl := h
        exact k_J6
      · refine z_if_eq C0 39 dX5_note_4 (by decide) (fun c1 => ?_) (fun c1 => ?_)
        · exact k11
        · refine z_aload_n C0 dX5_note_7 rfl 0 rfl ?_
          refine z_geti C0 hT0.1 hT0.2.2.1 kf_5_51 zr_5_2 dX5_note_8 ?_
          refine z_iconst (v := (1 : Int32)) C0 dX5_note_11 (by decide) ?_
          refine z_icmp_eq C0 49 dX5_note_12 (by decide) (fun c2 => ?_) (fun c2 => ?_)
          · exact absurd hc10 (fun q => q.elim c1 (fun q => q.1 c2))
          · refine z_iload_n C0 dX5_note_15 rfl 2 rfl ?_
            refine z_aload_n C0 dX5_note_16 rfl 0 rfl ?_
            refine z_geti C0 hT0.1 hT0.2.2.1 kf_5_24 zr_5_3 dX5_note_17 ?_
            refine z_icmp_lt C0 39 dX5_note_20 (by decide) (fun c3 => ?_) (fun c3 => ?_)
            · exact k11
            · refine z_iload_n C0 dX5_note_23 rfl 2 rfl ?_
              refine z_aload_n C0 dX5_note_24 rfl 0 rfl ?_
              refine z_geti C0 hT0.1 hT0.2.2.1 kf_5_24 zr_5_3 dX5_note_25 ?_
              refine z_icmp_ne C0 49 dX5_note_28 (by decide) (fun c4 => ?_) (fun c4 => ?_)
              · exact absurd hc10 (fun q => q.elim c1 (fun q => (fun q => q.elim c3 (fun q => c4 q.1)) q.2))
              · refine z_iload_n C0 dX5_note_31 rfl 1 rfl ?_
                refine z_aload_n C0 dX5_note_32 rfl 0 rfl ?_
                refine z_geti C0 hT0.1 hT0.2.2.1 kf_5_51 zr_5_2 dX5_note_33 ?_
                refine z_icmp_ge C0 49 dX5_note_36 (by decide) (fun c5 => ?_) (fun c5 => ?_)
                · exact absurd hc10 (fun q => q.elim c1 (fun q => (fun q => q.elim c3 (fun q => (fun q => q c5) q.2)) q.2))
                · exact k11
    · have h := zif_f hc10 h
      refine z_join μ 49 [(0, .ref (zb g + a0)), (1, .int v1), (2, .int v2)] [] ?_ (fun k12 => ?_)
      · refine z_sub (lo1 := []) [] rfl ?_
        obtain rfl := h
        exact k_J6
      · refine z_if_eq C0 39 dX5_note_4 (by decide) (fun c1 => ?_) (fun c1 => ?_)
        · exact absurd (Or.inl c1) hc10
        · refine z_aload_n C0 dX5_note_7 rfl 0 rfl ?_
          refine z_geti C0 hT0.1 hT0.2.2.1 kf_5_51 zr_5_2 dX5_note_8 ?_
          refine z_iconst (v := (1 : Int32)) C0 dX5_note_11 (by decide) ?_
          refine z_icmp_eq C0 49 dX5_note_12 (by decide) (fun c2 => ?_) (fun c2 => ?_)
          · exact k12
          · refine z_iload_n C0 dX5_note_15 rfl 2 rfl ?_
            refine z_aload_n C0 dX5_note_16 rfl 0 rfl ?_
            refine z_geti C0 hT0.1 hT0.2.2.1 kf_5_24 zr_5_3 dX5_note_17 ?_
            refine z_icmp_lt C0 39 dX5_note_20 (by decide) (fun c3 => ?_) (fun c3 => ?_)
            · exact absurd (Or.inr ⟨c2, (Or.inl c3)⟩) hc10
            · refine z_iload_n C0 dX5_note_23 rfl 2 rfl ?_
              refine z_aload_n C0 dX5_note_24 rfl 0 rfl ?_
              refine z_geti C0 hT0.1 hT0.2.2.1 kf_5_24 zr_5_3 dX5_note_25 ?_
              refine z_icmp_ne C0 49 dX5_note_28 (by decide) (fun c4 => ?_) (fun c4 => ?_)
              · exact k12
              · refine z_iload_n C0 dX5_note_31 rfl 1 rfl ?_
                refine z_aload_n C0 dX5_note_32 rfl 0 rfl ?_
                refine z_geti C0 hT0.1 hT0.2.2.1 kf_5_51 zr_5_2 dX5_note_33 ?_
                refine z_icmp_ge C0 49 dX5_note_36 (by decide) (fun c5 => ?_) (fun c5 => ?_)
                · exact k12
                · exact absurd (Or.inr ⟨c2, (Or.inr ⟨c4, c5⟩)⟩) hc10
def f_X5_readNumbers_L2 (a0 : Nat) (w1 : Nat) : Nat → Int32 → zM → Option (zM)
  | 0, _, _ => none
  | n + 1, y3, μ4 =>
    if (3 : Int32) ≤ y3 then
      some μ4
    else
      zg (zin y3 3) <|
      zl (zup μ4 (a0 + 18) (y3.toNatClampNeg) (-1 : Int32)) fun μ7 =>
      zl (y3 + (1 : Int32)) fun x8 =>
      f_X5_readNumbers_L2 a0 w1 n x8 μ7
def f_X5_readNumbers_L22 (a0 : Nat) (w1 : Nat) : Nat → Int32 → zM → Option ((zM) ⊕ (zM))
  | 0, _, _ => none
  | n + 1, y12, μ13 =>
    if (¬ ((3 : Int32) ≤ y12)) ∧ (¬ ((f_X10_takesNumber w1 y12) = 0)) then
      if (μ13 a0 6) = (2 : Int32) then
        zl (if (w1 = 6) ∧ ((y12 = (1 : Int32)) ∧ ((μ13 a0 9) = (μ13 (a0 + 18) 0))) then
            (1 : Int32)
          else
            (0 : Int32)) fun x29 =>
        zl (if ((f_X10_allows w1 y12 (μ13 a0 9)) = 0) ∨ (¬ (x29 = 0)) then
            zl (f_X5_note a0 (2 : Int32) (μ13 a0 7) μ13) fun μ33 =>
            μ33
          else
            μ13) fun μ34 =>
        zg (zin y12 3) <|
        zl (zup μ34 (a0 + 18) (y12.toNatClampNeg) (μ34 a0 9)) fun μ36 =>
        zbd (f_X5_look a0 μ36) fun μ37 =>
        zl (y12 + (1 : Int32)) fun x38 =>
        f_X5_readNumbers_L22 a0 w1 n x38 μ37
      else
        zl (f_X5_breakOff a0 μ13) fun μ39 =>
        some (.inl μ39)
    else
      some (.inr μ13)
def f_X5_readNumbers (a0 : Nat) (w1 : Nat) (μ : zM) : Option (zM) :=
  zbd (f_X5_readNumbers_L2 a0 w1 zFU (0 : Int32) μ) fun μ9 =>
  zbd (f_X5_readNumbers_L22 a0 w1 zFU (0 : Int32) μ9) fun q41 => zsum q41 (fun t => some t) fun μ40 =>
  some μ40
set_option maxHeartbeats 4000000 in
set_option maxRecDepth 100000 in
theorem r_X5_readNumbers_L2 {l : Launch} {g : zL} {κ : zK} {p : Program} {e : Env} {s : State} {m : MethodId} {args : Array Value} {below : List Frame} {meth : Method} {c : Code} {Q : State → Prop} (C0 : zC p s m args meth c g cX5_readNumbers yX5_readNumbers 4 none) (hSp : zSK g κ) (a0 : Nat) (w1 : Nat) (hU1 : zT zNN zσ1 a0 5) (hW2 : w1 < 30) : ∀ (n : Nat) (y3 : Int32) (μ4 : zM) (μ9 : zM), f_X5_readNumbers_L2 a0 w1 n y3 μ4 = some μ9 → Z p l e (zrm 3 0 0) s m args below meth c g Q 4 zNN 0 0 zσ1 μ9 20 [(0, .ref (zb g + a0)), (1, .ref (kad κ w1))] [] → Z p l e (zrm 3 0 0) s m args below meth c g Q 4 zNN 0 0 zσ1 μ4 2 [(0, .ref (zb g + a0)), (1, .ref (kad κ w1)), (2, .int y3)] [] := by
  have hF := hSp.at C0
  intro n
  induction n with
  | zero =>
    intro y3 μ4 μ9 h kx
    rw [f_X5_readNumbers_L2] at h
    cases h
  | succ n ih =>
    intro y3 μ4 μ9 h kx
    rw [f_X5_readNumbers_L2] at h
    refine z_iload_n C0 dX5_readNumbers_2 rfl 2 rfl ?_
    refine z_iconst (v := (3 : Int32)) C0 dX5_readNumbers_3 (by decide) ?_
    refine z_icmp_ge C0 20 dX5_readNumbers_4 (by decide) (fun c5 => ?_) (fun c5 => ?_)
    · have h := zif_t c5 h
      refine z_sub (lo1 := [(0, .ref (zb g + a0)), (1, .ref (kad κ w1))]) [0, 1] rfl ?_
      obtain rfl := (Option.some.inj h)
      exact kx
    · have h := zif_f c5 h
      refine z_aload_n C0 dX5_readNumbers_7 rfl 0 rfl ?_
      refine z_getr C0 hU1 kf_5_32 zr_5_10 zx_5 (zs_5_10 hU1).1 dX5_readNumbers_8 ?_
      refine z_iload_n C0 dX5_readNumbers_11 rfl 2 rfl ?_
      refine z_iconst (v := (-1 : Int32)) C0 dX5_readNumbers_12 (by decide) ?_
      obtain ⟨g6, h⟩ := zg_of h
      obtain ⟨μ7, e_μ7, h⟩ := zl_of h
      refine z_iast C0 (zs_5_10 hU1).2 g6 rfl e_μ7 dX5_readNumbers_13 ?_
      obtain ⟨x8, e_x8, h⟩ := zl_of h
      refine z_iinc (lo1 := [(2, .int x8), (0, .ref (zb g + a0)), (1, .ref (kad κ w1))]) C0 dX5_readNumbers_14 2 rfl (by decide) e_x8.symm (by decide) rfl ?_
      refine z_goto C0 2 dX5_readNumbers_17 (by decide) ?_
      refine z_sub (lo1 := [(0, .ref (zb g + a0)), (1, .ref (kad κ w1)), (2, .int x8)]) [1, 2, 0] rfl ?_
      exact ih _ _ _ h kx
set_option maxHeartbeats 4000000 in
set_option maxRecDepth 100000 in
theorem r_X5_readNumbers_L22 {l : Launch} {g : zL} {κ : zK} {p : Program} {e : Env} {s : State} {m : MethodId} {args : Array Value} {below : List Frame} {meth : Method} {c : Code} {μr : zM} (C0 : zC p s m args meth c g cX5_readNumbers yX5_readNumbers 4 none) (hSp : zSK g κ) (a0 : Nat) (w1 : Nat) (hU10 : zT zNN zσ1 a0 5) (hW11 : w1 < 30) : ∀ (n : Nat) (y12 : Int32) (μ13 : zM) (q : (zM) ⊕ (zM)), f_X5_readNumbers_L22 a0 w1 n y12 μ13 = some q → (∀ t, q = Sum.inl t → t = μr) → (∀ o, q = Sum.inr o → Z p l e (zrm 3 0 0) s m args below meth c g (MQ below (zQ g zNN zσ1 none μr) args s 0 0 (zA g)) 4 zNN 0 0 zσ1 ((fun o => o) o) 124 ((fun o => []) o) []) → Z p l e (zrm 3 0 0) s m args below meth c g (MQ below (zQ g zNN zσ1 none μr) args s 0 0 (zA g)) 4 zNN 0 0 zσ1 μ13 22 [(0, .ref (zb g + a0)), (1, .ref (kad κ w1)), (2, .int y12)] [] := by
  have hF := hSp.at C0
  intro n
  induction n with
  | zero =>
    intro y12 μ13 q h kr kx
    rw [f_X5_readNumbers_L22] at h
    cases h
  | succ n ih =>
    intro y12 μ13 q h kr kx
    rw [f_X5_readNumbers_L22] at h
    refine z_iload_n C0 dX5_readNumbers_22 rfl 2 rfl ?_
    refine z_iconst (v := (3 : Int32)) C0 dX5_readNumbers_23 (by decide) ?_
    by_cases hc42 : (¬ ((3 : Int32) ≤ y12)) ∧ (¬ ((f_X10_takesNumber w1 y12) = 0))
    · have h := zif_t hc42 h
      refine z_join μ13 35 [(0, .ref (zb g + a0)), (1, .ref (kad κ w1)), (2, .int y12)] [] ?_ (fun k43 => ?_)
      · refine z_aload_n C0 dX5_readNumbers_35 rfl 0 rfl ?_
        refine z_geti C0 hU10.1 hU10.2.2.1 kf_5_66 zr_5_6 dX5_readNumbers_36 ?_
        refine z_iconst (v := (2 : Int32)) C0 dX5_readNumbers_39 (by decide) ?_
        refine z_icmp_eq C0 48 dX5_readNumbers_40 (by decide) (fun c21 => ?_) (fun c21 => ?_)
        · have h := zif_t c21 h
          refine z_aload_n C0 dX5_readNumbers_48 rfl 1 rfl ?_
          refine z_gets C0 (hF.2.2.2.1 6 (by decide)).1 kl_5_152 dX5_readNumbers_49 ?_
          obtain ⟨x29, e_x29, h⟩ := zl_of h
          refine z_join μ13 78 [(0, .ref (zb g + a0)), (1, .ref (kad κ w1)), (2, .int y12)] [.int x29] ?_ (fun k_J28 => ?_)
          · refine z_istore_n (lo1 := [(3, .int x29), (0, .ref (zb g + a0)), (1, .ref (kad κ w1)), (2, .int y12)]) C0 dX5_readNumbers_78 rfl (by decide) rfl ?_
            refine z_aload_n C0 dX5_readNumbers_79 rfl 2 rfl ?_
            refine z_iload_n C0 dX5_readNumbers_80 rfl 3 rfl ?_
            refine z_aload_n C0 dX5_readNumbers_81 rfl 1 rfl ?_
            refine z_geti C0 hU10.1 hU10.2.2.1 kf_5_95 zr_5_9 dX5_readNumbers_82 ?_
            refine z_callVON (As := [.int y12, .int (μ13 a0 9)]) (rest := []) C0 rfl kc_X10_allows (hF.2.2.2.2.2.2.2.1 _ (List.mem_of_getElem? (i := 6) rfl)) (r_X10_allows (l := l) (g := g) (μ := μ13) w1 y12 (μ13 a0 9) hW11 hSp rfl) (hF.2.2.2.1 w1 hW11).2.1 rfl (Nat.le_of_ble_eq_true rfl) (Nat.le_of_ble_eq_true rfl) (Nat.le_of_ble_eq_true rfl) (Nat.le_of_ble_eq_true rfl) rfl rfl dX5_readNumbers_85 ?_
            obtain ⟨μ34, e_μ34, h⟩ := zl_of h
            refine z_join μ34 104 [(0, .ref (zb g + a0)), (1, .ref (kad κ w1)), (2, .int y12)] [] ?_ (fun k_J32 => ?_)
            · refine z_aload_n C0 dX5_readNumbers_104 rfl 0 rfl ?_
              refine z_getr C0 hU10 kf_5_32 zr_5_10 zx_5 (zs_5_10 hU10).1 dX5_readNumbers_105 ?_
              refine z_iload_n C0 dX5_readNumbers_108 rfl 2 rfl ?_
              refine z_aload_n C0 dX5_readNumbers_109 rfl 0 rfl ?_
              refine z_geti C0 hU10.1 hU10.2.2.1 kf_5_95 zr_5_9 dX5_readNumbers_110 ?_
              obtain ⟨g35, h⟩ := zg_of h
              obtain ⟨μ36, e_μ36, h⟩ := zl_of h
              refine z_iast C0 (zs_5_10 hU10).2 g35 rfl e_μ36 dX5_readNumbers_113 ?_
              refine z_aload_n C0 dX5_readNumbers_114 rfl 0 rfl ?_
              obtain ⟨μ37, e_μ37, h⟩ := zbd_of h
              refine z_callV (As := []) (rest := []) C0 rfl kc_X5_look km_RX5_63 (r_X5_look (l := l) (g := g) a0 μ36 hU10 e_μ37) hU10.1 hU10.2.2.1 rfl (by decide) rfl (Nat.le_of_ble_eq_true rfl) (Nat.le_of_ble_eq_true rfl) (Nat.le_of_ble_eq_true rfl) (Nat.le_of_ble_eq_true rfl) (Nat.le_refl _) rfl rfl dX5_readNumbers_115 ?_
              obtain ⟨x38, e_x38, h⟩ := zl_of h
              refine z_iinc (lo1 := [(2, .int x38), (0, .ref (zb g + a0)), (1, .ref (kad κ w1))]) C0 dX5_readNumbers_118 2 rfl (by decide) e_x38.symm (by decide) rfl ?_
              refine z_goto C0 22 dX5_readNumbers_121 (by decide) ?_
              refine z_sub (lo1 := [(0, .ref (zb g + a0)), (1, .ref (kad κ w1)), (2, .int x38)]) [1, 2, 0] rfl ?_
              exact ih _ _ _ h kr kx
            · have h := e_μ34.symm
              by_cases hc44 : ((f_X10_allows w1 y12 (μ13 a0 9)) = 0) ∨ (¬ (x29 = 0))
              · have h := zif_t hc44 h
                refine z_join μ13 95 [(3, .int x29), (0, .ref (zb g + a0)), (1, .ref (kad κ w1)), (2, .int y12)] [] ?_ (fun k45 => ?_)
                · refine z_aload_n C0 dX5_readNumbers_95 rfl 1 rfl ?_
                  refine z_iconst (v := (2 : Int32)) C0 dX5_readNumbers_96 (by decide) ?_
                  refine z_aload_n C0 dX5_readNumbers_97 rfl 1 rfl ?_
                  refine z_geti C0 hU10.1 hU10.2.2.1 kf_5_79 zr_5_7 dX5_readNumbers_98 ?_
                  obtain ⟨μ33, e_μ33, h⟩ := zl_of h
                  refine z_callV (As := [.int (2 : Int32), .int (μ13 a0 7)]) (rest := []) C0 rfl kc_X5_note km_RX5_145 (r_X5_note (l := l) (g := g) a0 (2 : Int32) (μ13 a0 7) μ13 hU10 e_μ33.symm) hU10.1 hU10.2.2.1 rfl (by decide) rfl (Nat.le_of_ble_eq_true rfl) (Nat.le_of_ble_eq_true rfl) (Nat.le_of_ble_eq_true rfl) (Nat.le_of_ble_eq_true rfl) (Nat.le_refl _) rfl rfl dX5_readNumbers_101 ?_
                  refine z_sub (lo1 := [(0, .ref (zb g + a0)), (1, .ref (kad κ w1)), (2, .int y12)]) [1, 2, 3] rfl ?_
                  obtain rfl := h
                  exact k_J32
                · refine z_if_eq C0 95 dX5_readNumbers_88 (by decide) (fun c30 => ?_) (fun c30 => ?_)
                  · exact k45
                  · refine z_iload_n C0 dX5_readNumbers_91 rfl 0 rfl ?_
                    refine z_if_eq C0 104 dX5_readNumbers_92 (by decide) (fun c31 => ?_) (fun c31 => ?_)
                    · exact absurd hc44 (fun q => q.elim c30 (fun q => q c31))
                    · exact k45
              · have h := zif_f hc44 h
                refine z_join μ13 104 [(3, .int x29), (0, .ref (zb g + a0)), (1, .ref (kad κ w1)), (2, .int y12)] [] ?_ (fun k46 => ?_)
                · refine z_sub (lo1 := [(0, .ref (zb g + a0)), (1, .ref (kad κ w1)), (2, .int y12)]) [1, 2, 3] rfl ?_
                  obtain rfl := h
                  exact k_J32
                · refine z_if_eq C0 95 dX5_readNumbers_88 (by decide) (fun c30 => ?_) (fun c30 => ?_)
                  · exact absurd (Or.inl c30) hc44
                  · refine z_iload_n C0 dX5_readNumbers_91 rfl 0 rfl ?_
                    refine z_if_eq C0 104 dX5_readNumbers_92 (by decide) (fun c31 => ?_) (fun c31 => ?_)
                    · exact k46
                    · exact absurd (Or.inr c31) hc44
          · have h := e_x29.symm
            by_cases hc47 : (w1 = 6) ∧ ((y12 = (1 : Int32)) ∧ ((μ13 a0 9) = (μ13 (a0 + 18) 0)))
            · have h := zif_t hc47 h
              refine z_join μ13 73 [(0, .ref (zb g + a0)), (1, .ref (kad κ w1)), (2, .int y12)] [] ?_ (fun k48 => ?_)
              · refine z_iconst (v := (1 : Int32)) C0 dX5_readNumbers_73 (by decide) ?_
                refine z_goto C0 78 dX5_readNumbers_74 (by decide) ?_
                obtain rfl := h
                exact k_J28
              · refine z_acmp_neW C0 77 dX5_readNumbers_52 (by decide) hF.2.2.2.2.1 hW11 (by decide) (fun c25 => ?_) (fun c25 => ?_)
                · exact absurd hc47 (fun q => c25 q.1)
                · refine z_iload_n C0 dX5_readNumbers_55 rfl 2 rfl ?_
                  refine z_iconst (v := (1 : Int32)) C0 dX5_readNumbers_56 (by decide) ?_
                  refine z_icmp_ne C0 77 dX5_readNumbers_57 (by decide) (fun c26 => ?_) (fun c26 => ?_)
                  · exact absurd hc47 (fun q => (fun q => c26 q.1) q.2)
                  · refine z_aload_n C0 dX5_readNumbers_60 rfl 0 rfl ?_
                    refine z_geti C0 hU10.1 hU10.2.2.1 kf_5_95 zr_5_9 dX5_readNumbers_61 ?_
                    refine z_aload_n C0 dX5_readNumbers_64 rfl 0 rfl ?_
                    refine z_getr C0 hU10 kf_5_32 zr_5_10 zx_5 (zs_5_10 hU10).1 dX5_readNumbers_65 ?_
                    refine z_iconst (v := (0 : Int32)) C0 dX5_readNumbers_68 (by decide) ?_
                    refine z_iald (j := 0) C0 (zs_5_10 hU10).2 (by decide : zin (0 : Int32) 3 = true) (by decide) dX5_readNumbers_69 ?_
                    refine z_icmp_ne C0 77 dX5_readNumbers_70 (by decide) (fun c27 => ?_) (fun c27 => ?_)
                    · exact absurd hc47 (fun q => (fun q => (fun q => c27 q) q.2) q.2)
                    · exact k48
            · have h := zif_f hc47 h
              refine z_join μ13 77 [(0, .ref (zb g + a0)), (1, .ref (kad κ w1)), (2, .int y12)] [] ?_ (fun k49 => ?_)
              · refine z_iconst (v := (0 : Int32)) C0 dX5_readNumbers_77 (by decide) ?_
                obtain rfl := h
                exact k_J28
              · refine z_acmp_neW C0 77 dX5_readNumbers_52 (by decide) hF.2.2.2.2.1 hW11 (by decide) (fun c25 => ?_) (fun c25 => ?_)
                · exact k49
                · refine z_iload_n C0 dX5_readNumbers_55 rfl 2 rfl ?_
                  refine z_iconst (v := (1 : Int32)) C0 dX5_readNumbers_56 (by decide) ?_
                  refine z_icmp_ne C0 77 dX5_readNumbers_57 (by decide) (fun c26 => ?_) (fun c26 => ?_)
                  · exact k49
                  · refine z_aload_n C0 dX5_readNumbers_60 rfl 0 rfl ?_
                    refine z_geti C0 hU10.1 hU10.2.2.1 kf_5_95 zr_5_9 dX5_readNumbers_61 ?_
                    refine z_aload_n C0 dX5_readNumbers_64 rfl 0 rfl ?_
                    refine z_getr C0 hU10 kf_5_32 zr_5_10 zx_5 (zs_5_10 hU10).1 dX5_readNumbers_65 ?_
                    refine z_iconst (v := (0 : Int32)) C0 dX5_readNumbers_68 (by decide) ?_
                    refine z_iald (j := 0) C0 (zs_5_10 hU10).2 (by decide : zin (0 : Int32) 3 = true) (by decide) dX5_readNumbers_69 ?_
                    refine z_icmp_ne C0 77 dX5_readNumbers_70 (by decide) (fun c27 => ?_) (fun c27 => ?_)
                    · exact k49
                    · exact absurd ⟨c25, ⟨c26, c27⟩⟩ hc47
        · have h := zif_f c21 h
          refine z_aload_n C0 dX5_readNumbers_43 rfl 0 rfl ?_
          obtain ⟨μ39, e_μ39, h⟩ := zl_of h
          refine z_callV (As := []) (rest := []) C0 rfl kc_X5_breakOff km_RX5_127 (r_X5_breakOff (l := l) (g := g) a0 μ13 hU10 e_μ39.symm) hU10.1 hU10.2.2.1 rfl (by decide) rfl (Nat.le_of_ble_eq_true rfl) (Nat.le_of_ble_eq_true rfl) (Nat.le_of_ble_eq_true rfl) (Nat.le_of_ble_eq_true rfl) (Nat.le_refl _) rfl rfl dX5_readNumbers_44 ?_
          have h := kr _ (Option.some.inj h).symm
          obtain rfl := h
          exact z_vret C0 rfl dX5_readNumbers_47
      · refine z_icmp_ge C0 124 dX5_readNumbers_24 (by decide) (fun c14 => ?_) (fun c14 => ?_)
        · exact absurd hc42 (fun q => q.1 c14)
        · refine z_aload_n C0 dX5_readNumbers_27 rfl 1 rfl ?_
          refine z_iload_n C0 dX5_readNumbers_28 rfl 2 rfl ?_
          refine z_callVON (As := [.int y12]) (rest := []) C0 rfl kc_X10_takesNumber (hF.2.2.2.2.2.2.2.1 _ (List.mem_of_getElem? (i := 5) rfl)) (r_X10_takesNumber (l := l) (g := g) (μ := μ13) w1 y12 hW11 hSp rfl) (hF.2.2.2.1 w1 hW11).2.1 rfl (Nat.le_of_ble_eq_true rfl) (Nat.le_of_ble_eq_true rfl) (Nat.le_of_ble_eq_true rfl) (Nat.le_of_ble_eq_true rfl) rfl rfl dX5_readNumbers_29 ?_
          refine z_if_eq C0 124 dX5_readNumbers_32 (by decide) (fun c20 => ?_) (fun c20 => ?_)
          · exact absurd hc42 (fun q => (fun q => q c20) q.2)
          · exact k43
    · have h := zif_f hc42 h
      refine z_join μ13 124 [(0, .ref (zb g + a0)), (1, .ref (kad κ w1)), (2, .int y12)] [] ?_ (fun k50 => ?_)
      · refine z_sub (lo1 := []) [] rfl ?_
        exact kx μ13 (Option.some.inj h).symm
      · refine z_icmp_ge C0 124 dX5_readNumbers_24 (by decide) (fun c14 => ?_) (fun c14 => ?_)
        · exact k50
        · refine z_aload_n C0 dX5_readNumbers_27 rfl 1 rfl ?_
          refine z_iload_n C0 dX5_readNumbers_28 rfl 2 rfl ?_
          refine z_callVON (As := [.int y12]) (rest := []) C0 rfl kc_X10_takesNumber (hF.2.2.2.2.2.2.2.1 _ (List.mem_of_getElem? (i := 5) rfl)) (r_X10_takesNumber (l := l) (g := g) (μ := μ13) w1 y12 hW11 hSp rfl) (hF.2.2.2.1 w1 hW11).2.1 rfl (Nat.le_of_ble_eq_true rfl) (Nat.le_of_ble_eq_true rfl) (Nat.le_of_ble_eq_true rfl) (Nat.le_of_ble_eq_true rfl) rfl rfl dX5_readNumbers_29 ?_
          refine z_if_eq C0 124 dX5_readNumbers_32 (by decide) (fun c20 => ?_) (fun c20 => ?_)
          · exact k50
          · exact absurd ⟨c14, c20⟩ hc42
set_option maxHeartbeats 4000000 in
set_option maxRecDepth 100000 in
theorem r_X5_readNumbers {l : Launch} {g : zL} {κ : zK} (a0 : Nat) (w1 : Nat) (μ : zM) (hT0 : zT zNN zσ1 a0 5) (hW1 : w1 < 30) (hSp : zSK g κ) {μr : zM} (h : f_X5_readNumbers a0 w1 μ = some μr) : zMet l g yX5_readNumbers cX5_readNumbers 4 none 3 0 0 zNN zNN zσ1 zσ1 [.ref (zb g + a0), .ref (kad κ w1)] μ none μr := by
  refine zMet.of (by decide +kernel) (Nat.le_of_ble_eq_true rfl) ?_
  intro p e s m args below meth c C0
  have hF := hSp.at C0
  refine z_loc (lo1 := [(0, .ref (zb g + a0)), (1, .ref (kad κ w1))]) rfl ?_
  unfold f_X5_readNumbers at h
  refine z_iconst (v := (0 : Int32)) C0 dX5_readNumbers_0 (by decide) ?_
  refine z_istore_n (lo1 := [(2, .int (0 : Int32)), (0, .ref (zb g + a0)), (1, .ref (kad κ w1))]) C0 dX5_readNumbers_1 rfl (by decide) rfl ?_
  refine z_sub (lo1 := [(0, .ref (zb g + a0)), (1, .ref (kad κ w1)), (2, .int (0 : Int32))]) [1, 2, 0] rfl ?_
  obtain ⟨μ9, e_μ9, h⟩ := zbd_of h
  refine r_X5_readNumbers_L2 C0 hSp a0 w1 hT0 hW1 zFU (0 : Int32) μ μ9 e_μ9 ?_
  refine z_iconst (v := (0 : Int32)) C0 dX5_readNumbers_20 (by decide) ?_
  refine z_istore_n (lo1 := [(2, .int (0 : Int32)), (0, .ref (zb g + a0)), (1, .ref (kad κ w1))]) C0 dX5_readNumbers_21 rfl (by decide) rfl ?_
  refine z_sub (lo1 := [(0, .ref (zb g + a0)), (1, .ref (kad κ w1)), (2, .int (0 : Int32))]) [1, 2, 0] rfl ?_
  obtain ⟨q41, e_q41, h⟩ := zbd_of h
  refine r_X5_readNumbers_L22 C0 hSp a0 w1 hT0 hW1 zFU (0 : Int32) μ9 q41 e_q41 ?_ ?_
  · intro t ht
    have h := zsum_l h _ ht
    exact Option.some.inj h
  · intro μ40 hq
    have h := zsum_r h _ hq
    have h := Option.some.inj h
    obtain rfl := h
    exact z_vret C0 rfl dX5_readNumbers_124
def f_X5_readFurtherGraves_L31 (a0 : Nat) : Nat → Int32 → Int32 → zM → Option (Int32 × zM)
  | 0, _, _, _ => none
  | n + 1, y5, y6, μ7 =>
    if (¬ ((μ7 a0 5) < y6)) ∧ ((μ7 a0 6) = (2 : Int32)) then
      zl2 (if (¬ ((f_X10_allows 23 (0 : Int32) (μ7 a0 9)) = 0)) ∧ (¬ ((y5 >>> ((μ7 a0 9) &&& 31)) &&& (1 : Int32)) = (1 : Int32)) then
          zl (y5 ||| ((1 : Int32) <<< ((μ7 a0 9) &&& 31))) fun x16 =>
          (x16, μ7)
        else
          zl (f_X5_note a0 (2 : Int32) (μ7 a0 7) μ7) fun μ17 =>
          (y5, μ17)) fun x18 μ19 =>
      zbd (f_X5_look a0 μ19) fun μ20 =>
      zl (y6 + (1 : Int32)) fun x21 =>
      f_X5_readFurtherGraves_L31 a0 n x18 x21 μ20
    else
      some (y5, μ7)
def f_X5_readFurtherGraves (a0 : Nat) (μ : zM) : Option (zM) :=
  zl (if (f_X10_allows 23 (0 : Int32) (μ (a0 + 18) 0)) = 0 then
      (0 : Int32)
    else
      ((1 : Int32) <<< ((μ (a0 + 18) 0) &&& 31))) fun x3 =>
  zbd2 (f_X5_readFurtherGraves_L31 a0 zFU x3 (0 : Int32) μ) fun x22 μ23 =>
  zl (zup μ23 (a0 + 18) 0 x22) fun μ24 =>
  some μ24
set_option maxHeartbeats 4000000 in
set_option maxRecDepth 100000 in
theorem r_X5_readFurtherGraves_L31 {l : Launch} {g : zL} {κ : zK} {p : Program} {e : Env} {s : State} {m : MethodId} {args : Array Value} {below : List Frame} {meth : Method} {c : Code} {Q : State → Prop} (C0 : zC p s m args meth c g cX5_readFurtherGraves yX5_readFurtherGraves 3 none) (hSp : zSK g κ) (a0 : Nat) (hU4 : zT zNN zσ1 a0 5) : ∀ (n : Nat) (y5 : Int32) (y6 : Int32) (μ7 : zM) (x22 : Int32) (μ23 : zM), f_X5_readFurtherGraves_L31 a0 n y5 y6 μ7 = some (x22, μ23) → Z p l e (zrm 3 0 0) s m args below meth c g Q 3 zNN 0 0 zσ1 μ23 103 [(0, .ref (zb g + a0)), (1, .int x22)] [] → Z p l e (zrm 3 0 0) s m args below meth c g Q 3 zNN 0 0 zσ1 μ7 31 [(0, .ref (zb g + a0)), (1, .int y5), (2, .int y6)] [] := by
  have hF := hSp.at C0
  intro n
  induction n with
  | zero =>
    intro y5 y6 μ7 x22 μ23 h kx
    rw [f_X5_readFurtherGraves_L31] at h
    cases h
  | succ n ih =>
    intro y5 y6 μ7 x22 μ23 h kx
    rw [f_X5_readFurtherGraves_L31] at h
    refine z_iload_n C0 dX5_readFurtherGraves_31 rfl 2 rfl ?_
    refine z_aload_n C0 dX5_readFurtherGraves_32 rfl 0 rfl ?_
    refine z_geti C0 hU4.1 hU4.2.2.1 kf_5_48 zr_5_5 dX5_readFurtherGraves_33 ?_
    by_cases hc25 : (¬ ((μ7 a0 5) < y6)) ∧ ((μ7 a0 6) = (2 : Int32))
    · have h := zif_t hc25 h
      refine z_join μ7 47 [(0, .ref (zb g + a0)), (1, .int y5), (2, .int y6)] [] ?_ (fun k26 => ?_)
      · refine z_gets C0 (hF.2.2.2.1 23 (by decide)).1 kl_5_134 dX5_readFurtherGraves_47 ?_
        refine z_iconst (v := (0 : Int32)) C0 dX5_readFurtherGraves_50 (by decide) ?_
        refine z_aload_n C0 dX5_readFurtherGraves_51 rfl 0 rfl ?_
        refine z_geti C0 hU4.1 hU4.2.2.1 kf_5_95 zr_5_9 dX5_readFurtherGraves_52 ?_
        refine z_callVON (As := [.int (0 : Int32), .int (μ7 a0 9)]) (rest := []) C0 rfl kc_X10_allows (hF.2.2.2.2.2.2.2.1 _ (List.mem_of_getElem? (i := 6) rfl)) (r_X10_allows (l := l) (g := g) (μ := μ7) 23 (0 : Int32) (μ7 a0 9) (by decide) hSp rfl) (hF.2.2.2.1 23 (by decide)).2.1 rfl (Nat.le_of_ble_eq_true rfl) (Nat.le_of_ble_eq_true rfl) (Nat.le_of_ble_eq_true rfl) (Nat.le_of_ble_eq_true rfl) rfl rfl dX5_readFurtherGraves_55 ?_
        obtain ⟨x18, μ19, e_x18, h⟩ := zl2_of h
        refine z_join μ19 93 [(0, .ref (zb g + a0)), (1, .int x18), (2, .int y6)] [] ?_ (fun k_J15 => ?_)
        · refine z_aload_n C0 dX5_readFurtherGraves_93 rfl 0 rfl ?_
          obtain ⟨μ20, e_μ20, h⟩ := zbd_of h
          refine z_callV (As := []) (rest := []) C0 rfl kc_X5_look km_RX5_63 (r_X5_look (l := l) (g := g) a0 μ19 hU4 e_μ20) hU4.1 hU4.2.2.1 rfl (by decide) rfl (Nat.le_of_ble_eq_true rfl) (Nat.le_of_ble_eq_true rfl) (Nat.le_of_ble_eq_true rfl) (Nat.le_of_ble_eq_true rfl) (Nat.le_refl _) rfl rfl dX5_readFurtherGraves_94 ?_
          obtain ⟨x21, e_x21, h⟩ := zl_of h
          refine z_iinc (lo1 := [(2, .int x21), (0, .ref (zb g + a0)), (1, .int x18)]) C0 dX5_readFurtherGraves_97 2 rfl (by decide) e_x21.symm (by decide) rfl ?_
          refine z_goto C0 31 dX5_readFurtherGraves_100 (by decide) ?_
          refine z_sub (lo1 := [(0, .ref (zb g + a0)), (1, .int x18), (2, .int x21)]) [1, 2, 0] rfl ?_
          exact ih _ _ _ _ _ h kx
        · have h := e_x18
          by_cases hc27 : (¬ ((f_X10_allows 23 (0 : Int32) (μ7 a0 9)) = 0)) ∧ (¬ ((y5 >>> ((μ7 a0 9) &&& 31)) &&& (1 : Int32)) = (1 : Int32))
          · have h := zif_t hc27 h
            refine z_join μ7 84 [(0, .ref (zb g + a0)), (1, .int y5), (2, .int y6)] [] ?_ (fun k28 => ?_)
            · refine z_iload_n C0 dX5_readFurtherGraves_84 rfl 1 rfl ?_
              refine z_iconst (v := (1 : Int32)) C0 dX5_readFurtherGraves_85 (by decide) ?_
              refine z_aload_n C0 dX5_readFurtherGraves_86 rfl 0 rfl ?_
              refine z_geti C0 hU4.1 hU4.2.2.1 kf_5_95 zr_5_9 dX5_readFurtherGraves_87 ?_
              refine z_ishl C0 dX5_readFurtherGraves_90 ?_
              refine z_ior C0 dX5_readFurtherGraves_91 ?_
              obtain ⟨x16, e_x16, h⟩ := zl_of h
              refine z_nm e_x16 ?_
              refine z_istore_n (lo1 := [(1, .int x16), (0, .ref (zb g + a0)), (2, .int y6)]) C0 dX5_readFurtherGraves_92 rfl (by decide) rfl ?_
              refine z_sub (lo1 := [(0, .ref (zb g + a0)), (1, .int x16), (2, .int y6)]) [1, 0, 2] rfl ?_
              obtain ⟨rfl, rfl⟩ := Prod.mk.inj h
              exact k_J15
            · refine z_if_eq C0 72 dX5_readFurtherGraves_58 (by decide) (fun c13 => ?_) (fun c13 => ?_)
              · exact absurd hc27 (fun q => q.1 c13)
              · refine z_iload_n C0 dX5_readFurtherGraves_61 rfl 1 rfl ?_
                refine z_aload_n C0 dX5_readFurtherGraves_62 rfl 0 rfl ?_
                refine z_geti C0 hU4.1 hU4.2.2.1 kf_5_95 zr_5_9 dX5_readFurtherGraves_63 ?_
                refine z_callSN (As := [.int y5, .int (μ7 a0 9)]) (rest := []) C0 rfl kc_X11_isIn (hF.2.2.2.2.2.2.2.1 _ (List.mem_of_getElem? (i := 10) rfl)) (r_X11_isIn (l := l) (g := g) (μ := μ7) y5 (μ7 a0 9) rfl) rfl (Nat.le_of_ble_eq_true rfl) (Nat.le_of_ble_eq_true rfl) (Nat.le_of_ble_eq_true rfl) (Nat.le_of_ble_eq_true rfl) rfl rfl dX5_readFurtherGraves_66 ?_
                refine z_if_eqI C0 84 dX5_readFurtherGraves_69 (by decide) (fun c14 => ?_) (fun c14 => ?_)
                · exact k28
                · exact absurd hc27 (fun q => (fun q => q c14) q.2)
          · have h := zif_f hc27 h
            refine z_join μ7 72 [(0, .ref (zb g + a0)), (1, .int y5), (2, .int y6)] [] ?_ (fun k29 => ?_)
            · refine z_aload_n C0 dX5_readFurtherGraves_72 rfl 0 rfl ?_
              refine z_iconst (v := (2 : Int32)) C0 dX5_readFurtherGraves_73 (by decide) ?_
              refine z_aload_n C0 dX5_readFurtherGraves_74 rfl 0 rfl ?_
              refine z_geti C0 hU4.1 hU4.2.2.1 kf_5_79 zr_5_7 dX5_readFurtherGraves_75 ?_
              obtain ⟨μ17, e_μ17, h⟩ := zl_of h
              refine z_callV (As := [.int (2 : Int32), .int (μ7 a0 7)]) (rest := []) C0 rfl kc_X5_note km_RX5_145 (r_X5_note (l := l) (g := g) a0 (2 : Int32) (μ7 a0 7) μ7 hU4 e_μ17.symm) hU4.1 hU4.2.2.1 rfl (by decide) rfl (Nat.le_of_ble_eq_true rfl) (Nat.le_of_ble_eq_true rfl) (Nat.le_of_ble_eq_true rfl) (Nat.le_of_ble_eq_true rfl) (Nat.le_refl _) rfl rfl dX5_readFurtherGraves_78 ?_
              refine z_goto C0 93 dX5_readFurtherGraves_81 (by decide) ?_
              obtain ⟨rfl, rfl⟩ := Prod.mk.inj h
              exact k_J15
            · refine z_if_eq C0 72 dX5_readFurtherGraves_58 (by decide) (fun c13 => ?_) (fun c13 => ?_)
              · exact k29
              · refine z_iload_n C0 dX5_readFurtherGraves_61 rfl 1 rfl ?_
                refine z_aload_n C0 dX5_readFurtherGraves_62 rfl 0 rfl ?_
                refine z_geti C0 hU4.1 hU4.2.2.1 kf_5_95 zr_5_9 dX5_readFurtherGraves_63 ?_
                refine z_callSN (As := [.int y5, .int (μ7 a0 9)]) (rest := []) C0 rfl kc_X11_isIn (hF.2.2.2.2.2.2.2.1 _ (List.mem_of_getElem? (i := 10) rfl)) (r_X11_isIn (l := l) (g := g) (μ := μ7) y5 (μ7 a0 9) rfl) rfl (Nat.le_of_ble_eq_true rfl) (Nat.le_of_ble_eq_true rfl) (Nat.le_of_ble_eq_true rfl) (Nat.le_of_ble_eq_true rfl) rfl rfl dX5_readFurtherGraves_66 ?_
                refine z_if_eqI C0 84 dX5_readFurtherGraves_69 (by decide) (fun c14 => ?_) (fun c14 => ?_)
                · exact absurd ⟨c13, c14⟩ hc27
                · exact k29
      · refine z_icmp_gt C0 103 dX5_readFurtherGraves_36 (by decide) (fun c8 => ?_) (fun c8 => ?_)
        · exact absurd hc25 (fun q => q.1 c8)
        · refine z_aload_n C0 dX5_readFurtherGraves_39 rfl 0 rfl ?_
          refine z_geti C0 hU4.1 hU4.2.2.1 kf_5_66 zr_5_6 dX5_readFurtherGraves_40 ?_
          refine z_iconst (v := (2 : Int32)) C0 dX5_readFurtherGraves_43 (by decide) ?_
          refine z_icmp_ne C0 103 dX5_readFurtherGraves_44 (by decide) (fun c12 => ?_) (fun c12 => ?_)
          · exact absurd hc25 (fun q => (fun q => c12 q) q.2)
          · exact k26
    · have h := zif_f hc25 h
      refine z_join μ7 103 [(0, .ref (zb g + a0)), (1, .int y5), (2, .int y6)] [] ?_ (fun k30 => ?_)
      · refine z_sub (lo1 := [(0, .ref (zb g + a0)), (1, .int y5)]) [0, 1] rfl ?_
        obtain ⟨rfl, rfl⟩ := Prod.mk.inj (Option.some.inj h)
        exact kx
      · refine z_icmp_gt C0 103 dX5_readFurtherGraves_36 (by decide) (fun c8 => ?_) (fun c8 => ?_)
        · exact k30
        · refine z_aload_n C0 dX5_readFurtherGraves_39 rfl 0 rfl ?_
          refine z_geti C0 hU4.1 hU4.2.2.1 kf_5_66 zr_5_6 dX5_readFurtherGraves_40 ?_
          refine z_iconst (v := (2 : Int32)) C0 dX5_readFurtherGraves_43 (by decide) ?_
          refine z_icmp_ne C0 103 dX5_readFurtherGraves_44 (by decide) (fun c12 => ?_) (fun c12 => ?_)
          · exact k30
          · exact absurd ⟨c8, c12⟩ hc25
set_option maxHeartbeats 4000000 in
set_option maxRecDepth 100000 in
theorem r_X5_readFurtherGraves {l : Launch} {g : zL} {κ : zK} (a0 : Nat) (μ : zM) (hT0 : zT zNN zσ1 a0 5) (hSp : zSK g κ) {μr : zM} (h : f_X5_readFurtherGraves a0 μ = some μr) : zMet l g yX5_readFurtherGraves cX5_readFurtherGraves 3 none 3 0 0 zNN zNN zσ1 zσ1 [.ref (zb g + a0)] μ none μr := by
  refine zMet.of (by decide +kernel) (Nat.le_of_ble_eq_true rfl) ?_
  intro p e s m args below meth c C0
  have hF := hSp.at C0
  refine z_loc (lo1 := [(0, .ref (zb g + a0))]) rfl ?_
  unfold f_X5_readFurtherGraves at h
  refine z_gets C0 (hF.2.2.2.1 23 (by decide)).1 kl_5_134 dX5_readFurtherGraves_0 ?_
  refine z_iconst (v := (0 : Int32)) C0 dX5_readFurtherGraves_3 (by decide) ?_
  refine z_aload_n C0 dX5_readFurtherGraves_4 rfl 0 rfl ?_
  refine z_getr C0 hT0 kf_5_32 zr_5_10 zx_5 (zs_5_10 hT0).1 dX5_readFurtherGraves_5 ?_
  refine z_iconst (v := (0 : Int32)) C0 dX5_readFurtherGraves_8 (by decide) ?_
  refine z_iald (j := 0) C0 (zs_5_10 hT0).2 (by decide : zin (0 : Int32) 3 = true) (by decide) dX5_readFurtherGraves_9 ?_
  refine z_callVON (As := [.int (0 : Int32), .int (μ (a0 + 18) 0)]) (rest := []) C0 rfl kc_X10_allows (hF.2.2.2.2.2.2.2.1 _ (List.mem_of_getElem? (i := 6) rfl)) (r_X10_allows (l := l) (g := g) (μ := μ) 23 (0 : Int32) (μ (a0 + 18) 0) (by decide) hSp rfl) (hF.2.2.2.1 23 (by decide)).2.1 rfl (Nat.le_of_ble_eq_true rfl) (Nat.le_of_ble_eq_true rfl) (Nat.le_of_ble_eq_true rfl) (Nat.le_of_ble_eq_true rfl) rfl rfl dX5_readFurtherGraves_10 ?_
  obtain ⟨x3, e_x3, h⟩ := zl_of h
  refine z_join μ 28 [(0, .ref (zb g + a0))] [.int x3] ?_ (fun k_J2 => ?_)
  · refine z_istore_n (lo1 := [(1, .int x3), (0, .ref (zb g + a0))]) C0 dX5_readFurtherGraves_28 rfl (by decide) rfl ?_
    refine z_iconst (v := (0 : Int32)) C0 dX5_readFurtherGraves_29 (by decide) ?_
    refine z_istore_n (lo1 := [(2, .int (0 : Int32)), (1, .int x3), (0, .ref (zb g + a0))]) C0 dX5_readFurtherGraves_30 rfl (by decide) rfl ?_
    refine z_sub (lo1 := [(0, .ref (zb g + a0)), (1, .int x3), (2, .int (0 : Int32))]) [2, 1, 0] rfl ?_
    obtain ⟨x22, μ23, e_x22, h⟩ := zbd2_of h
    refine r_X5_readFurtherGraves_L31 C0 hSp a0 hT0 zFU x3 (0 : Int32) μ x22 μ23 e_x22 ?_
    refine z_aload_n C0 dX5_readFurtherGraves_103 rfl 0 rfl ?_
    refine z_getr C0 hT0 kf_5_32 zr_5_10 zx_5 (zs_5_10 hT0).1 dX5_readFurtherGraves_104 ?_
    refine z_iconst (v := (0 : Int32)) C0 dX5_readFurtherGraves_107 (by decide) ?_
    refine z_iload_n C0 dX5_readFurtherGraves_108 rfl 1 rfl ?_
    obtain ⟨μ24, e_μ24, h⟩ := zl_of h
    refine z_iast (j := 0) C0 (zs_5_10 hT0).2 (by decide : zin (0 : Int32) 3 = true) (by decide) e_μ24 dX5_readFurtherGraves_109 ?_
    have h := Option.some.inj h
    obtain rfl := h
    exact z_vret C0 rfl dX5_readFurtherGraves_110
  · have h := e_x3.symm
    refine z_if_eq C0 27 dX5_readFurtherGraves_13 (by decide) (fun c1 => ?_) (fun c1 => ?_)
    · have h := zif_t c1 h
      refine z_iconst (v := (0 : Int32)) C0 dX5_readFurtherGraves_27 (by decide) ?_
      obtain rfl := h
      exact k_J2
    · have h := zif_f c1 h
      refine z_iconst (v := (1 : Int32)) C0 dX5_readFurtherGraves_16 (by decide) ?_
      refine z_aload_n C0 dX5_readFurtherGraves_17 rfl 0 rfl ?_
      refine z_getr C0 hT0 kf_5_32 zr_5_10 zx_5 (zs_5_10 hT0).1 dX5_readFurtherGraves_18 ?_
      refine z_iconst (v := (0 : Int32)) C0 dX5_readFurtherGraves_21 (by decide) ?_
      refine z_iald (j := 0) C0 (zs_5_10 hT0).2 (by decide : zin (0 : Int32) 3 = true) (by decide) dX5_readFurtherGraves_22 ?_
      refine z_ishl C0 dX5_readFurtherGraves_23 ?_
      refine z_goto C0 28 dX5_readFurtherGraves_24 (by decide) ?_
      obtain rfl := h
      exact k_J2
def f_X5_tellOfLake_L41 (a0 : Nat) (w1 : Nat) : Nat → Int32 → zM → Option (zM)
  | 0, _, _ => none
  | n + 1, y4, μ5 =>
    if (¬ ((3 : Int32) ≤ y4)) ∧ ((¬ ((f_X10_takesNumber w1 y4) = 0)) ∧ (¬ ((11 : Int32) ≤ ((f_X10_matter w1) + y4)))) then
      zg (zin y4 3) <|
      zg (zin ((f_X10_matter w1) + y4) 11) <|
      zl (zup μ5 ((a0 + 1) + 1) (((f_X10_matter w1) + y4).toNatClampNeg) (μ5 (a0 + 18) (y4.toNatClampNeg))) fun μ11 =>
      zl (y4 + (1 : Int32)) fun x12 =>
      f_X5_tellOfLake_L41 a0 w1 n x12 μ11
    else
      some μ5
def f_X5_tellOfLake (a0 : Nat) (w1 : Nat) (μ : zM) : Option (Int32 × zM) :=
  zl (f_X1_rowsOf (a0 + 1) (f_X10_matter w1)) fun r1 =>
  zcase r1 (zbd (f_X5_tellOfLake_L41 a0 w1 zFU (0 : Int32) μ) fun μ13 =>
    some ((1 : Int32), μ13)) fun w14 => zg (zgn w14 6) <|
    zbd2 (f_X6_add w14 (μ (a0 + 18) 0) (μ (a0 + 18) 1) (μ (a0 + 18) 2) μ) fun r16 μ17 =>
    zg (z01 r16) <|
    some (r16, μ17)
set_option maxHeartbeats 4000000 in
set_option maxRecDepth 100000 in
theorem r_X5_tellOfLake_L41 {l : Launch} {g : zL} {κ : zK} {p : Program} {e : Env} {s : State} {m : MethodId} {args : Array Value} {below : List Frame} {meth : Method} {c : Code} {Q : State → Prop} (C0 : zC p s m args meth c g cX5_tellOfLake yX5_tellOfLake 4 (some (.boolean))) (hSp : zSK g κ) (a0 : Nat) (w1 : Nat) (hU2 : zT zNN zσ1 a0 5) (hW3 : w1 < 30) : ∀ (n : Nat) (y4 : Int32) (μ5 : zM) (μ13 : zM), f_X5_tellOfLake_L41 a0 w1 n y4 μ5 = some μ13 → Z p l e (zrm 2 0 0) s m args below meth c g Q 4 zNN 0 0 zσ1 μ13 91 [] [] → Z p l e (zrm 2 0 0) s m args below meth c g Q 4 zNN 0 0 zσ1 μ5 41 [(0, .ref (zb g + a0)), (1, .ref (kad κ w1)), (3, .int y4)] [] := by
  have hF := hSp.at C0
  intro n
  induction n with
  | zero =>
    intro y4 μ5 μ13 h kx
    rw [f_X5_tellOfLake_L41] at h
    cases h
  | succ n ih =>
    intro y4 μ5 μ13 h kx
    rw [f_X5_tellOfLake_L41] at h
    refine z_iload_n C0 dX5_tellOfLake_41 rfl 2 rfl ?_
    refine z_iconst (v := (3 : Int32)) C0 dX5_tellOfLake_42 (by decide) ?_
    by_cases hc19 : (¬ ((3 : Int32) ≤ y4)) ∧ ((¬ ((f_X10_takesNumber w1 y4) = 0)) ∧ (¬ ((11 : Int32) ≤ ((f_X10_matter w1) + y4))))
    · have h := zif_t hc19 h
      refine z_join μ5 65 [(0, .ref (zb g + a0)), (1, .ref (kad κ w1)), (3, .int y4)] [] ?_ (fun k20 => ?_)
      · refine z_aload_n C0 dX5_tellOfLake_65 rfl 0 rfl ?_
        refine z_getr C0 hU2 kf_5_12 zr_5_0 zx_5 (zs_5_0 hU2).1 dX5_tellOfLake_66 ?_
        refine z_getr C0 (zs_5_0 hU2).2 kf_5_176 zr_1_0 zx_1 (zs_1_0 (zs_5_0 hU2).2).1 dX5_tellOfLake_69 ?_
        refine z_aload_n C0 dX5_tellOfLake_72 rfl 1 rfl ?_
        refine z_callVON (As := []) (rest := [.ref (zb g + ((a0 + 1) + 1))]) C0 rfl kc_X10_matter (hF.2.2.2.2.2.2.2.1 _ (List.mem_of_getElem? (i := 7) rfl)) (r_X10_matter (l := l) (g := g) (μ := μ5) w1 hW3 hSp rfl) (hF.2.2.2.1 w1 hW3).2.1 rfl (Nat.le_of_ble_eq_true rfl) (Nat.le_of_ble_eq_true rfl) (Nat.le_of_ble_eq_true rfl) (Nat.le_of_ble_eq_true rfl) rfl rfl dX5_tellOfLake_73 ?_
        refine z_iload_n C0 dX5_tellOfLake_76 rfl 2 rfl ?_
        refine z_iadd C0 dX5_tellOfLake_77 ?_
        refine z_aload_n C0 dX5_tellOfLake_78 rfl 0 rfl ?_
        refine z_getr C0 hU2 kf_5_32 zr_5_10 zx_5 (zs_5_10 hU2).1 dX5_tellOfLake_79 ?_
        refine z_iload_n C0 dX5_tellOfLake_82 rfl 2 rfl ?_
        obtain ⟨g9, h⟩ := zg_of h
        refine z_iald C0 (zs_5_10 hU2).2 g9 rfl dX5_tellOfLake_83 ?_
        obtain ⟨g10, h⟩ := zg_of h
        obtain ⟨μ11, e_μ11, h⟩ := zl_of h
        refine z_iast C0 (zs_1_0 (zs_5_0 hU2).2).2 g10 rfl e_μ11 dX5_tellOfLake_84 ?_
        obtain ⟨x12, e_x12, h⟩ := zl_of h
        refine z_iinc (lo1 := [(3, .int x12), (0, .ref (zb g + a0)), (1, .ref (kad κ w1))]) C0 dX5_tellOfLake_85 2 rfl (by decide) e_x12.symm (by decide) rfl ?_
        refine z_goto C0 41 dX5_tellOfLake_88 (by decide) ?_
        refine z_sub (lo1 := [(0, .ref (zb g + a0)), (1, .ref (kad κ w1)), (3, .int x12)]) [1, 2, 0] rfl ?_
        exact ih _ _ _ h kx
      · refine z_icmp_ge C0 91 dX5_tellOfLake_43 (by decide) (fun c6 => ?_) (fun c6 => ?_)
        · exact absurd hc19 (fun q => q.1 c6)
        · refine z_aload_n C0 dX5_tellOfLake_46 rfl 1 rfl ?_
          refine z_iload_n C0 dX5_tellOfLake_47 rfl 2 rfl ?_
          refine z_callVON (As := [.int y4]) (rest := []) C0 rfl kc_X10_takesNumber (hF.2.2.2.2.2.2.2.1 _ (List.mem_of_getElem? (i := 5) rfl)) (r_X10_takesNumber (l := l) (g := g) (μ := μ5) w1 y4 hW3 hSp rfl) (hF.2.2.2.1 w1 hW3).2.1 rfl (Nat.le_of_ble_eq_true rfl) (Nat.le_of_ble_eq_true rfl) (Nat.le_of_ble_eq_true rfl) (Nat.le_of_ble_eq_true rfl) rfl rfl dX5_tellOfLake_48 ?_
          refine z_if_eq C0 91 dX5_tellOfLake_51 (by decide) (fun c7 => ?_) (fun c7 => ?_)
          · exact absurd hc19 (fun q => (fun q => q.1 c7) q.2)
          · refine z_aload_n C0 dX5_tellOfLake_54 rfl 1 rfl ?_
            refine z_callVON (As := []) (rest := []) C0 rfl kc_X10_matter (hF.2.2.2.2.2.2.2.1 _ (List.mem_of_getElem? (i := 7) rfl)) (r_X10_matter (l := l) (g := g) (μ := μ5) w1 hW3 hSp rfl) (hF.2.2.2.1 w1 hW3).2.1 rfl (Nat.le_of_ble_eq_true rfl) (Nat.le_of_ble_eq_true rfl) (Nat.le_of_ble_eq_true rfl) (Nat.le_of_ble_eq_true rfl) rfl rfl dX5_tellOfLake_55 ?_
            refine z_iload_n C0 dX5_tellOfLake_58 rfl 2 rfl ?_
            refine z_iadd C0 dX5_tellOfLake_59 ?_
            refine z_bipush (v := (11 : Int32)) C0 dX5_tellOfLake_60 (by decide) ?_
            refine z_icmp_ge C0 91 dX5_tellOfLake_62 (by decide) (fun c8 => ?_) (fun c8 => ?_)
            · exact absurd hc19 (fun q => (fun q => (fun q => q c8) q.2) q.2)
            · exact k20
    · have h := zif_f hc19 h
      refine z_join μ5 91 [(0, .ref (zb g + a0)), (1, .ref (kad κ w1)), (3, .int y4)] [] ?_ (fun k21 => ?_)
      · refine z_sub (lo1 := []) [] rfl ?_
        obtain rfl := (Option.some.inj h)
        exact kx
      · refine z_icmp_ge C0 91 dX5_tellOfLake_43 (by decide) (fun c6 => ?_) (fun c6 => ?_)
        · exact k21
        · refine z_aload_n C0 dX5_tellOfLake_46 rfl 1 rfl ?_
          refine z_iload_n C0 dX5_tellOfLake_47 rfl 2 rfl ?_
          refine z_callVON (As := [.int y4]) (rest := []) C0 rfl kc_X10_takesNumber (hF.2.2.2.2.2.2.2.1 _ (List.mem_of_getElem? (i := 5) rfl)) (r_X10_takesNumber (l := l) (g := g) (μ := μ5) w1 y4 hW3 hSp rfl) (hF.2.2.2.1 w1 hW3).2.1 rfl (Nat.le_of_ble_eq_true rfl) (Nat.le_of_ble_eq_true rfl) (Nat.le_of_ble_eq_true rfl) (Nat.le_of_ble_eq_true rfl) rfl rfl dX5_tellOfLake_48 ?_
          refine z_if_eq C0 91 dX5_tellOfLake_51 (by decide) (fun c7 => ?_) (fun c7 => ?_)
          · exact k21
          · refine z_aload_n C0 dX5_tellOfLake_54 rfl 1 rfl ?_
            refine z_callVON (As := []) (rest := []) C0 rfl kc_X10_matter (hF.2.2.2.2.2.2.2.1 _ (List.mem_of_getElem? (i := 7) rfl)) (r_X10_matter (l := l) (g := g) (μ := μ5) w1 hW3 hSp rfl) (hF.2.2.2.1 w1 hW3).2.1 rfl (Nat.le_of_ble_eq_true rfl) (Nat.le_of_ble_eq_true rfl) (Nat.le_of_ble_eq_true rfl) (Nat.le_of_ble_eq_true rfl) rfl rfl dX5_tellOfLake_55 ?_
            refine z_iload_n C0 dX5_tellOfLake_58 rfl 2 rfl ?_
            refine z_iadd C0 dX5_tellOfLake_59 ?_
            refine z_bipush (v := (11 : Int32)) C0 dX5_tellOfLake_60 (by decide) ?_
            refine z_icmp_ge C0 91 dX5_tellOfLake_62 (by decide) (fun c8 => ?_) (fun c8 => ?_)
            · exact k21
            · exact absurd ⟨c6, ⟨c7, c8⟩⟩ hc19
set_option maxHeartbeats 4000000 in
set_option maxRecDepth 100000 in
theorem r_X5_tellOfLake {l : Launch} {g : zL} {κ : zK} (a0 : Nat) (w1 : Nat) (μ : zM) (hT0 : zT zNN zσ1 a0 5) (hW1 : w1 < 30) (hSp : zSK g κ) {rv : Int32} {μr : zM} (h : f_X5_tellOfLake a0 w1 μ = some (rv, μr)) : zMet l g yX5_tellOfLake cX5_tellOfLake 4 (some (.boolean)) 2 0 0 zNN zNN zσ1 zσ1 [.ref (zb g + a0), .ref (kad κ w1)] μ (some (.int rv)) μr := by
  refine zMet.of (by decide +kernel) (Nat.le_of_ble_eq_true rfl) ?_
  intro p e s m args below meth c C0
  have hF := hSp.at C0
  refine z_loc (lo1 := [(0, .ref (zb g + a0)), (1, .ref (kad κ w1))]) rfl ?_
  unfold f_X5_tellOfLake at h
  refine z_aload_n C0 dX5_tellOfLake_0 rfl 0 rfl ?_
  refine z_getr C0 hT0 kf_5_12 zr_5_0 zx_5 (zs_5_0 hT0).1 dX5_tellOfLake_1 ?_
  refine z_aload_n C0 dX5_tellOfLake_4 rfl 1 rfl ?_
  refine z_callVON (As := []) (rest := [.ref (zb g + (a0 + 1))]) C0 rfl kc_X10_matter (hF.2.2.2.2.2.2.2.1 _ (List.mem_of_getElem? (i := 7) rfl)) (r_X10_matter (l := l) (g := g) (μ := μ) w1 hW1 hSp rfl) (hF.2.2.2.1 w1 hW1).2.1 rfl (Nat.le_of_ble_eq_true rfl) (Nat.le_of_ble_eq_true rfl) (Nat.le_of_ble_eq_true rfl) (Nat.le_of_ble_eq_true rfl) rfl rfl dX5_tellOfLake_5 ?_
  obtain ⟨r1, e_r1, h⟩ := zl_of h
  refine z_callV (As := [.int (f_X10_matter w1)]) (rest := []) C0 rfl kc_X1_rowsOf km_RX5_172 (r_X1_rowsOf (l := l) (g := g) (μ := μ) (a0 + 1) (f_X10_matter w1) (zs_5_0 hT0).2 e_r1.symm) (zs_5_0 hT0).2.1 (zs_5_0 hT0).2.2.2.1 rfl (by decide) rfl (Nat.le_of_ble_eq_true rfl) (Nat.le_of_ble_eq_true rfl) (Nat.le_of_ble_eq_true rfl) (Nat.le_of_ble_eq_true rfl) (Nat.le_refl _) rfl rfl dX5_tellOfLake_8 ?_
  refine z_astoreq_n (lo1 := [(2, zopt (zb g) r1), (0, .ref (zb g + a0)), (1, .ref (kad κ w1))]) C0 dX5_tellOfLake_11 rfl (by decide) rfl ?_
  refine z_aloadq_n C0 dX5_tellOfLake_12 rfl 0 rfl ?_
  refine z_ifnullq C0 39 dX5_tellOfLake_13 (by decide) (fun c22 => ?_) (fun w14 c22 => ?_)
  · have h_c22 := zcase_n c22 h
    clear h
    subst c22
    have h := h_c22
    refine z_loc (lo1 := [(2, .null), (0, .ref (zb g + a0)), (1, .ref (kad κ w1))]) rfl ?_
    refine z_iconst (v := (0 : Int32)) C0 dX5_tellOfLake_39 (by decide) ?_
    refine z_istore_n (lo1 := [(3, .int (0 : Int32)), (2, .null), (0, .ref (zb g + a0)), (1, .ref (kad κ w1))]) C0 dX5_tellOfLake_40 rfl (by decide) rfl ?_
    refine z_sub (lo1 := [(0, .ref (zb g + a0)), (1, .ref (kad κ w1)), (3, .int (0 : Int32))]) [2, 3, 0] rfl ?_
    obtain ⟨μ13, e_μ13, h⟩ := zbd_of h
    refine r_X5_tellOfLake_L41 C0 hSp a0 w1 hT0 hW1 zFU (0 : Int32) μ μ13 e_μ13 ?_
    refine z_iconst (v := (1 : Int32)) C0 dX5_tellOfLake_91 (by decide) ?_
    have h := Option.some.inj h
    obtain ⟨rfl, rfl⟩ := Prod.mk.inj h
    exact z_zret C0 rfl (by decide) dX5_tellOfLake_92
  · have h_c22 := zcase_s c22 h
    clear h
    subst c22
    have h := h_c22
    obtain ⟨g15, h⟩ := zg_of h
    refine z_loc (lo1 := [(2, .ref (zb g + w14)), (0, .ref (zb g + a0)), (1, .ref (kad κ w1))]) rfl ?_
    refine z_aload_n C0 dX5_tellOfLake_16 rfl 0 rfl ?_
    refine z_aload_n C0 dX5_tellOfLake_17 rfl 1 rfl ?_
    refine z_getr C0 hT0 kf_5_32 zr_5_10 zx_5 (zs_5_10 hT0).1 dX5_tellOfLake_18 ?_
    refine z_iconst (v := (0 : Int32)) C0 dX5_tellOfLake_21 (by decide) ?_
    refine z_iald (j := 0) C0 (zs_5_10 hT0).2 (by decide : zin (0 : Int32) 3 = true) (by decide) dX5_tellOfLake_22 ?_
    refine z_aload_n C0 dX5_tellOfLake_23 rfl 1 rfl ?_
    refine z_getr C0 hT0 kf_5_32 zr_5_10 zx_5 (zs_5_10 hT0).1 dX5_tellOfLake_24 ?_
    refine z_iconst (v := (1 : Int32)) C0 dX5_tellOfLake_27 (by decide) ?_
    refine z_iald (j := 1) C0 (zs_5_10 hT0).2 (by decide : zin (1 : Int32) 3 = true) (by decide) dX5_tellOfLake_28 ?_
    refine z_aload_n C0 dX5_tellOfLake_29 rfl 1 rfl ?_
    refine z_getr C0 hT0 kf_5_32 zr_5_10 zx_5 (zs_5_10 hT0).1 dX5_tellOfLake_30 ?_
    refine z_iconst (v := (2 : Int32)) C0 dX5_tellOfLake_33 (by decide) ?_
    refine z_iald (j := 2) C0 (zs_5_10 hT0).2 (by decide : zin (2 : Int32) 3 = true) (by decide) dX5_tellOfLake_34 ?_
    obtain ⟨r16, μ17, e_r16, h⟩ := zbd2_of h
    refine z_callV (As := [.int (μ (a0 + 18) 0), .int (μ (a0 + 18) 1), .int (μ (a0 + 18) 2)]) (rest := []) C0 rfl kc_X6_add km_RX5_168 (r_X6_add (l := l) (g := g) w14 (μ (a0 + 18) 0) (μ (a0 + 18) 1) (μ (a0 + 18) 2) μ (zgn_T g15 (by decide)) e_r16) (zgn_T g15 (by decide)).1 (zgn_T g15 (by decide)).2.2.1 rfl (by decide) rfl (Nat.le_of_ble_eq_true rfl) (Nat.le_of_ble_eq_true rfl) (Nat.le_of_ble_eq_true rfl) (Nat.le_of_ble_eq_true rfl) (Nat.le_refl _) rfl rfl dX5_tellOfLake_35 ?_
    obtain ⟨g18, h⟩ := zg_of h
    have h := Option.some.inj h
    obtain ⟨rfl, rfl⟩ := Prod.mk.inj h
    exact z_zret C0 rfl g18 dX5_tellOfLake_38
def f_X5_tell (a0 : Nat) (w1 : Nat) (μ : zM) : Option (Int32 × zM) :=
  zl (f_X10_sort w1) fun x1 =>
  if ¬ x1 = 0 then
    if (¬ (x1 < 0)) ∧ (x1 < (5 : Int32)) then
      if (¬ (x1 = (1 : Int32))) ∧ (¬ x1 = (4 : Int32)) then
        zg (zin x1 5) <|
        zbd2 (f_X6_add (a0 + 19 + 2 * x1.toNatClampNeg) (μ (a0 + 18) 0) (μ (a0 + 18) 1) (μ (a0 + 18) 2) μ) fun r15 μ16 =>
        zg (z01 r15) <|
        some (r15, μ16)
      else
        zg (zin x1 5) <|
        zbd2 (f_X6_add (a0 + 19 + 2 * x1.toNatClampNeg) (f_X10_matter w1) (μ (a0 + 18) 0) (μ (a0 + 18) 1) μ) fun r19 μ20 =>
        zg (z01 r19) <|
        some (r19, μ20)
    else
      some ((0 : Int32), μ)
  else
    zbd2 (f_X5_tellOfLake a0 w1 μ) fun r22 μ23 =>
    zg (z01 r22) <|
    some (r22, μ23)
set_option maxHeartbeats 4000000 in
set_option maxRecDepth 100000 in
theorem r_X5_tell {l : Launch} {g : zL} {κ : zK} (a0 : Nat) (w1 : Nat) (μ : zM) (hT0 : zT zNN zσ1 a0 5) (hW1 : w1 < 30) (hSp : zSK g κ) {rv : Int32} {μr : zM} (h : f_X5_tell a0 w1 μ = some (rv, μr)) : zMet l g yX5_tell cX5_tell 3 (some (.boolean)) 3 0 0 zNN zNN zσ1 zσ1 [.ref (zb g + a0), .ref (kad κ w1)] μ (some (.int rv)) μr := by
  refine zMet.of (by decide +kernel) (Nat.le_of_ble_eq_true rfl) ?_
  intro p e s m args below meth c C0
  have hF := hSp.at C0
  refine z_loc (lo1 := [(0, .ref (zb g + a0)), (1, .ref (kad κ w1))]) rfl ?_
  unfold f_X5_tell at h
  refine z_aload_n C0 dX5_tell_0 rfl 1 rfl ?_
  refine z_callVON (As := []) (rest := []) C0 rfl kc_X10_sort (hF.2.2.2.2.2.2.2.1 _ (List.mem_of_getElem? (i := 4) rfl)) (r_X10_sort (l := l) (g := g) (μ := μ) w1 hW1 hSp rfl) (hF.2.2.2.1 w1 hW1).2.1 rfl (Nat.le_of_ble_eq_true rfl) (Nat.le_of_ble_eq_true rfl) (Nat.le_of_ble_eq_true rfl) (Nat.le_of_ble_eq_true rfl) rfl rfl dX5_tell_1 ?_
  obtain ⟨x1, e_x1, h⟩ := zl_of h
  refine z_nm e_x1 ?_
  refine z_istore_n (lo1 := [(2, .int x1), (0, .ref (zb g + a0)), (1, .ref (kad κ w1))]) C0 dX5_tell_4 rfl (by decide) rfl ?_
  refine z_iload_n C0 dX5_tell_5 rfl 0 rfl ?_
  refine z_if_ne C0 15 dX5_tell_6 (by decide) (fun c2 => ?_) (fun c2 => ?_)
  · have h := zif_t c2 h
    refine z_iload_n C0 dX5_tell_15 rfl 0 rfl ?_
    by_cases hc25 : (¬ (x1 < 0)) ∧ (x1 < (5 : Int32))
    · have h := zif_t hc25 h
      refine z_join μ 26 [(2, .int x1), (0, .ref (zb g + a0)), (1, .ref (kad κ w1))] [] ?_ (fun k26 => ?_)
      · refine z_iload_n C0 dX5_tell_26 rfl 0 rfl ?_
        refine z_iconst (v := (1 : Int32)) C0 dX5_tell_27 (by decide) ?_
        by_cases hc27 : (¬ (x1 = (1 : Int32))) ∧ (¬ x1 = (4 : Int32))
        · have h := zif_t hc27 h
          refine z_join μ 62 [(2, .int x1), (0, .ref (zb g + a0)), (1, .ref (kad κ w1))] [] ?_ (fun k28 => ?_)
          · refine z_aload_n C0 dX5_tell_62 rfl 1 rfl ?_
            refine z_getr C0 hT0 kf_5_20 zr_5_1 zx_5 (zs_5_1 hT0).1 dX5_tell_63 ?_
            refine z_iload_n C0 dX5_tell_66 rfl 0 rfl ?_
            obtain ⟨g14, h⟩ := zg_of h
            refine z_aald C0 (zs_5_1 hT0).2 (by decide) (by decide) g14 (ze_5_1 hT0 g14).1 (ze_5_1 hT0 g14).2.1 dX5_tell_67 ?_
            refine z_aload_n C0 dX5_tell_68 rfl 1 rfl ?_
            refine z_getr C0 hT0 kf_5_32 zr_5_10 zx_5 (zs_5_10 hT0).1 dX5_tell_69 ?_
            refine z_iconst (v := (0 : Int32)) C0 dX5_tell_72 (by decide) ?_
            refine z_iald (j := 0) C0 (zs_5_10 hT0).2 (by decide : zin (0 : Int32) 3 = true) (by decide) dX5_tell_73 ?_
            refine z_aload_n C0 dX5_tell_74 rfl 1 rfl ?_
            refine z_getr C0 hT0 kf_5_32 zr_5_10 zx_5 (zs_5_10 hT0).1 dX5_tell_75 ?_
            refine z_iconst (v := (1 : Int32)) C0 dX5_tell_78 (by decide) ?_
            refine z_iald (j := 1) C0 (zs_5_10 hT0).2 (by decide : zin (1 : Int32) 3 = true) (by decide) dX5_tell_79 ?_
            refine z_aload_n C0 dX5_tell_80 rfl 1 rfl ?_
            refine z_getr C0 hT0 kf_5_32 zr_5_10 zx_5 (zs_5_10 hT0).1 dX5_tell_81 ?_
            refine z_iconst (v := (2 : Int32)) C0 dX5_tell_84 (by decide) ?_
            refine z_iald (j := 2) C0 (zs_5_10 hT0).2 (by decide : zin (2 : Int32) 3 = true) (by decide) dX5_tell_85 ?_
            obtain ⟨r15, μ16, e_r15, h⟩ := zbd2_of h
            refine z_callV (As := [.int (μ (a0 + 18) 0), .int (μ (a0 + 18) 1), .int (μ (a0 + 18) 2)]) (rest := []) C0 rfl kc_X6_add km_RX5_168 (r_X6_add (l := l) (g := g) (a0 + 19 + 2 * x1.toNatClampNeg) (μ (a0 + 18) 0) (μ (a0 + 18) 1) (μ (a0 + 18) 2) μ (ze_5_1 hT0 g14).2.2 e_r15) (ze_5_1 hT0 g14).2.2.1 (ze_5_1 hT0 g14).2.2.2.2.1 rfl (by decide) rfl (Nat.le_of_ble_eq_true rfl) (Nat.le_of_ble_eq_true rfl) (Nat.le_of_ble_eq_true rfl) (Nat.le_of_ble_eq_true rfl) (Nat.le_refl _) rfl rfl dX5_tell_86 ?_
            obtain ⟨g17, h⟩ := zg_of h
            have h := Option.some.inj h
            obtain ⟨rfl, rfl⟩ := Prod.mk.inj h
            exact z_zret C0 rfl g17 dX5_tell_89
          · refine z_icmp_eq C0 36 dX5_tell_28 (by decide) (fun c12 => ?_) (fun c12 => ?_)
            · exact absurd hc27 (fun q => q.1 c12)
            · refine z_iload_n C0 dX5_tell_31 rfl 0 rfl ?_
              refine z_iconst (v := (4 : Int32)) C0 dX5_tell_32 (by decide) ?_
              refine z_icmp_ne C0 62 dX5_tell_33 (by decide) (fun c13 => ?_) (fun c13 => ?_)
              · exact k28
              · exact absurd hc27 (fun q => (fun q => q c13) q.2)
        · have h := zif_f hc27 h
          refine z_join μ 36 [(2, .int x1), (0, .ref (zb g + a0)), (1, .ref (kad κ w1))] [] ?_ (fun k29 => ?_)
          · refine z_aload_n C0 dX5_tell_36 rfl 1 rfl ?_
            refine z_getr C0 hT0 kf_5_20 zr_5_1 zx_5 (zs_5_1 hT0).1 dX5_tell_37 ?_
            refine z_iload_n C0 dX5_tell_40 rfl 0 rfl ?_
            obtain ⟨g18, h⟩ := zg_of h
            refine z_aald C0 (zs_5_1 hT0).2 (by decide) (by decide) g18 (ze_5_1 hT0 g18).1 (ze_5_1 hT0 g18).2.1 dX5_tell_41 ?_
            refine z_aload_n C0 dX5_tell_42 rfl 2 rfl ?_
            refine z_callVON (As := []) (rest := [.ref (zb g + (a0 + 19 + 2 * x1.toNatClampNeg))]) C0 rfl kc_X10_matter (hF.2.2.2.2.2.2.2.1 _ (List.mem_of_getElem? (i := 7) rfl)) (r_X10_matter (l := l) (g := g) (μ := μ) w1 hW1 hSp rfl) (hF.2.2.2.1 w1 hW1).2.1 rfl (Nat.le_of_ble_eq_true rfl) (Nat.le_of_ble_eq_true rfl) (Nat.le_of_ble_eq_true rfl) (Nat.le_of_ble_eq_true rfl) rfl rfl dX5_tell_43 ?_
            refine z_aload_n C0 dX5_tell_46 rfl 1 rfl ?_
            refine z_getr C0 hT0 kf_5_32 zr_5_10 zx_5 (zs_5_10 hT0).1 dX5_tell_47 ?_
            refine z_iconst (v := (0 : Int32)) C0 dX5_tell_50 (by decide) ?_
            refine z_iald (j := 0) C0 (zs_5_10 hT0).2 (by decide : zin (0 : Int32) 3 = true) (by decide) dX5_tell_51 ?_
            refine z_aload_n C0 dX5_tell_52 rfl 1 rfl ?_
            refine z_getr C0 hT0 kf_5_32 zr_5_10 zx_5 (zs_5_10 hT0).1 dX5_tell_53 ?_
            refine z_iconst (v := (1 : Int32)) C0 dX5_tell_56 (by decide) ?_
            refine z_iald (j := 1) C0 (zs_5_10 hT0).2 (by decide : zin (1 : Int32) 3 = true) (by decide) dX5_tell_57 ?_
            obtain ⟨r19, μ20, e_r19, h⟩ := zbd2_of h
            refine z_callV (As := [.int (f_X10_matter w1), .int (μ (a0 + 18) 0), .int (μ (a0 + 18) 1)]) (rest := []) C0 rfl kc_X6_add km_RX5_168 (r_X6_add (l := l) (g := g) (a0 + 19 + 2 * x1.toNatClampNeg) (f_X10_matter w1) (μ (a0 + 18) 0) (μ (a0 + 18) 1) μ (ze_5_1 hT0 g18).2.2 e_r19) (ze_5_1 hT0 g18).2.2.1 (ze_5_1 hT0 g18).2.2.2.2.1 rfl (by decide) rfl (Nat.le_of_ble_eq_true rfl) (Nat.le_of_ble_eq_true rfl) (Nat.le_of_ble_eq_true rfl) (Nat.le_of_ble_eq_true rfl) (Nat.le_refl _) rfl rfl dX5_tell_58 ?_
            obtain ⟨g21, h⟩ := zg_of h
            have h := Option.some.inj h
            obtain ⟨rfl, rfl⟩ := Prod.mk.inj h
            exact z_zret C0 rfl g21 dX5_tell_61
          · refine z_icmp_eq C0 36 dX5_tell_28 (by decide) (fun c12 => ?_) (fun c12 => ?_)
            · exact k29
            · refine z_iload_n C0 dX5_tell_31 rfl 0 rfl ?_
              refine z_iconst (v := (4 : Int32)) C0 dX5_tell_32 (by decide) ?_
              refine z_icmp_ne C0 62 dX5_tell_33 (by decide) (fun c13 => ?_) (fun c13 => ?_)
              · exact absurd ⟨c12, c13⟩ hc27
              · exact k29
      · refine z_if_lt C0 24 dX5_tell_16 (by decide) (fun c7 => ?_) (fun c7 => ?_)
        · exact absurd hc25 (fun q => q.1 c7)
        · refine z_iload_n C0 dX5_tell_19 rfl 0 rfl ?_
          refine z_iconst (v := (5 : Int32)) C0 dX5_tell_20 (by decide) ?_
          refine z_icmp_lt C0 26 dX5_tell_21 (by decide) (fun c11 => ?_) (fun c11 => ?_)
          · exact k26
          · exact absurd hc25 (fun q => c11 q.2)
    · have h := zif_f hc25 h
      refine z_join μ 24 [(2, .int x1), (0, .ref (zb g + a0)), (1, .ref (kad κ w1))] [] ?_ (fun k30 => ?_)
      · refine z_iconst (v := (0 : Int32)) C0 dX5_tell_24 (by decide) ?_
        have h := Option.some.inj h
        obtain ⟨rfl, rfl⟩ := Prod.mk.inj h
        exact z_zret C0 rfl (by decide) dX5_tell_25
      · refine z_if_lt C0 24 dX5_tell_16 (by decide) (fun c7 => ?_) (fun c7 => ?_)
        · exact k30
        · refine z_iload_n C0 dX5_tell_19 rfl 0 rfl ?_
          refine z_iconst (v := (5 : Int32)) C0 dX5_tell_20 (by decide) ?_
          refine z_icmp_lt C0 26 dX5_tell_21 (by decide) (fun c11 => ?_) (fun c11 => ?_)
          · exact absurd ⟨c7, c11⟩ hc25
          · exact k30
  · have h := zif_f (fun q => q c2) h
    refine z_aload_n C0 dX5_tell_9 rfl 1 rfl ?_
    refine z_aload_n C0 dX5_tell_10 rfl 2 rfl ?_
    obtain ⟨r22, μ23, e_r22, h⟩ := zbd2_of h
    refine z_callV (As := [.ref (kad κ w1)]) (rest := []) C0 rfl kc_X5_tellOfLake km_RX5_162 (r_X5_tellOfLake (l := l) (g := g) a0 w1 μ hT0 hW1 hSp e_r22) hT0.1 hT0.2.2.1 rfl (by decide) rfl (Nat.le_of_ble_eq_true rfl) (Nat.le_of_ble_eq_true rfl) (Nat.le_of_ble_eq_true rfl) (Nat.le_of_ble_eq_true rfl) (Nat.le_refl _) rfl rfl dX5_tell_11 ?_
    obtain ⟨g24, h⟩ := zg_of h
    have h := Option.some.inj h
    obtain ⟨rfl, rfl⟩ := Prod.mk.inj h
    exact z_zret C0 rfl g24 dX5_tell_14
def f_X5_readLine (a0 : Nat) (v1 : Int32) (μ : zM) : Option (zM) :=
  zl (μ a0 7) fun x1 =>
  zbd (f_X5_wordOf a0 v1 μ) fun r2 =>
  zcase r2 (zl (f_X5_breakOff a0 μ) fun μ3 =>
    some μ3) fun w4 => zg (zgw w4) <|
    zbd (f_X5_look a0 μ) fun μ6 =>
    zbd (f_X5_readNumbers a0 w4 μ6) fun μ7 =>
    zbd (if (w4 = 23) ∧ (¬ ((μ7 a0 2) = (1 : Int32))) then
        zbd (f_X5_readFurtherGraves a0 μ7) fun μ11 =>
        some μ11
      else
        some μ7) fun μ12 =>
    if ¬ (μ12 a0 2) = (1 : Int32) then
      if (μ12 a0 6) = (3 : Int32) then
        zbd (f_X5_look a0 μ12) fun μ16 =>
        zbd2 (f_X5_tell a0 w4 μ16) fun r17 μ18 =>
        zl (if ¬ r17 = 0 then
            μ18
          else
            zl (f_X5_note a0 (3 : Int32) x1 μ18) fun μ21 =>
            μ21) fun μ22 =>
        some μ22
      else
        zl (f_X5_breakOff a0 μ12) fun μ23 =>
        some μ23
    else
      some μ12
set_option maxHeartbeats 4000000 in
set_option maxRecDepth 100000 in
theorem r_X5_readLine {l : Launch} {g : zL} {κ : zK} (a0 : Nat) (v1 : Int32) (μ : zM) (hT0 : zT zNN zσ1 a0 5) (hSp : zSK g κ) {μr : zM} (h : f_X5_readLine a0 v1 μ = some μr) : zMet l g yX5_readLine cX5_readLine 4 none 6 0 0 zNN zNN zσ1 zσ1 [.ref (zb g + a0), .int v1] μ none μr := by
  refine zMet.of (by decide +kernel) (Nat.le_of_ble_eq_true rfl) ?_
  intro p e s m args below meth c C0
  have hF := hSp.at C0
  refine z_loc (lo1 := [(0, .ref (zb g + a0)), (1, .int v1)]) rfl ?_
  unfold f_X5_readLine at h
  refine z_aload_n C0 dX5_readLine_0 rfl 0 rfl ?_
  refine z_geti C0 hT0.1 hT0.2.2.1 kf_5_79 zr_5_7 dX5_readLine_1 ?_
  obtain ⟨x1, e_x1, h⟩ := zl_of h
  refine z_nm e_x1 ?_
  refine z_istore_n (lo1 := [(2, .int x1), (0, .ref (zb g + a0)), (1, .int v1)]) C0 dX5_readLine_4 rfl (by decide) rfl ?_
  refine z_aload_n C0 dX5_readLine_5 rfl 1 rfl ?_
  refine z_iload_n C0 dX5_readLine_6 rfl 2 rfl ?_
  obtain ⟨r2, e_r2, h⟩ := zbd_of h
  refine z_callV (As := [.int v1]) (rest := []) C0 rfl kc_X5_wordOf km_RX5_123 (r_X5_wordOf (l := l) (g := g) a0 v1 μ hT0 hSp e_r2) hT0.1 hT0.2.2.1 rfl (by decide) rfl (Nat.le_of_ble_eq_true rfl) (Nat.le_of_ble_eq_true rfl) (Nat.le_of_ble_eq_true rfl) (Nat.le_of_ble_eq_true rfl) (Nat.le_refl _) rfl rfl dX5_readLine_7 ?_
  refine z_astorew_n (lo1 := [(3, zoptW κ r2), (2, .int x1), (0, .ref (zb g + a0)), (1, .int v1)]) C0 dX5_readLine_10 rfl (by decide) rfl ?_
  refine z_aloadw_n C0 dX5_readLine_11 rfl 0 rfl ?_
  refine z_ifnonnullw C0 20 dX5_readLine_12 (by decide) (fun w4 c24 => ?_) (fun c24 => ?_)
  · have h_c24 := zcase_s c24 h
    clear h
    subst c24
    have h := h_c24
    obtain ⟨g5, h⟩ := zg_of h
    refine z_loc (lo1 := [(3, .ref (kad κ w4)), (2, .int x1), (0, .ref (zb g + a0)), (1, .int v1)]) rfl ?_
    refine z_aload_n C0 dX5_readLine_20 rfl 2 rfl ?_
    obtain ⟨μ6, e_μ6, h⟩ := zbd_of h
    refine z_callV (As := []) (rest := []) C0 rfl kc_X5_look km_RX5_63 (r_X5_look (l := l) (g := g) a0 μ hT0 e_μ6) hT0.1 hT0.2.2.1 rfl (by decide) rfl (Nat.le_of_ble_eq_true rfl) (Nat.le_of_ble_eq_true rfl) (Nat.le_of_ble_eq_true rfl) (Nat.le_of_ble_eq_true rfl) (Nat.le_refl _) rfl rfl dX5_readLine_21 ?_
    refine z_aload_n C0 dX5_readLine_24 rfl 2 rfl ?_
    refine z_aload_n C0 dX5_readLine_25 rfl 0 rfl ?_
    obtain ⟨μ7, e_μ7, h⟩ := zbd_of h
    refine z_callV (As := [.ref (kad κ w4)]) (rest := []) C0 rfl kc_X5_readNumbers km_RX5_130 (r_X5_readNumbers (l := l) (g := g) a0 w4 μ6 hT0 (zgw_of g5) hSp e_μ7) hT0.1 hT0.2.2.1 rfl (by decide) rfl (Nat.le_of_ble_eq_true rfl) (Nat.le_of_ble_eq_true rfl) (Nat.le_of_ble_eq_true rfl) (Nat.le_of_ble_eq_true rfl) (Nat.le_refl _) rfl rfl dX5_readLine_26 ?_
    refine z_aload_n C0 dX5_readLine_29 rfl 0 rfl ?_
    refine z_gets C0 (hF.2.2.2.1 23 (by decide)).1 kl_5_134 dX5_readLine_30 ?_
    obtain ⟨μ12, e_μ12, h⟩ := zbd_of h
    refine z_join μ12 48 [(0, .ref (zb g + a0)), (2, .int x1), (3, .ref (kad κ w4))] [] ?_ (fun k_J10 => ?_)
    · refine z_aload_n C0 dX5_readLine_48 rfl 0 rfl ?_
      refine z_geti C0 hT0.1 hT0.2.2.1 kf_5_51 zr_5_2 dX5_readLine_49 ?_
      refine z_iconst (v := (1 : Int32)) C0 dX5_readLine_52 (by decide) ?_
      refine z_icmp_ne C0 57 dX5_readLine_53 (by decide) (fun c13 => ?_) (fun c13 => ?_)
      · have h := zif_t c13 h
        refine z_aload_n C0 dX5_readLine_57 rfl 0 rfl ?_
        refine z_geti C0 hT0.1 hT0.2.2.1 kf_5_66 zr_5_6 dX5_readLine_58 ?_
        refine z_iconst (v := (3 : Int32)) C0 dX5_readLine_61 (by decide) ?_
        refine z_icmp_eq C0 70 dX5_readLine_62 (by decide) (fun c15 => ?_) (fun c15 => ?_)
        · have h := zif_t c15 h
          refine z_aload_n C0 dX5_readLine_70 rfl 0 rfl ?_
          obtain ⟨μ16, e_μ16, h⟩ := zbd_of h
          refine z_callV (As := []) (rest := []) C0 rfl kc_X5_look km_RX5_63 (r_X5_look (l := l) (g := g) a0 μ12 hT0 e_μ16) hT0.1 hT0.2.2.1 rfl (by decide) rfl (Nat.le_of_ble_eq_true rfl) (Nat.le_of_ble_eq_true rfl) (Nat.le_of_ble_eq_true rfl) (Nat.le_of_ble_eq_true rfl) (Nat.le_refl _) rfl rfl dX5_readLine_71 ?_
          refine z_aload_n C0 dX5_readLine_74 rfl 0 rfl ?_
          refine z_aload_n C0 dX5_readLine_75 rfl 2 rfl ?_
          obtain ⟨r17, μ18, e_r17, h⟩ := zbd2_of h
          refine z_callV (As := [.ref (kad κ w4)]) (rest := []) C0 rfl kc_X5_tell km_RX5_141 (r_X5_tell (l := l) (g := g) a0 w4 μ16 hT0 (zgw_of g5) hSp e_r17) hT0.1 hT0.2.2.1 rfl (by decide) rfl (Nat.le_of_ble_eq_true rfl) (Nat.le_of_ble_eq_true rfl) (Nat.le_of_ble_eq_true rfl) (Nat.le_of_ble_eq_true rfl) (Nat.le_refl _) rfl rfl dX5_readLine_76 ?_
          obtain ⟨μ22, e_μ22, h⟩ := zl_of h
          refine z_join μ22 88 [] [] ?_ (fun k_J20 => ?_)
          · have h := Option.some.inj h
            obtain rfl := h
            exact z_vret C0 rfl dX5_readLine_88
          · have h := e_μ22.symm
            refine z_if_ne C0 88 dX5_readLine_79 (by decide) (fun c19 => ?_) (fun c19 => ?_)
            · have h := zif_t c19 h
              refine z_sub (lo1 := []) [] rfl ?_
              obtain rfl := h
              exact k_J20
            · have h := zif_f (fun q => q c19) h
              refine z_aload_n C0 dX5_readLine_82 rfl 0 rfl ?_
              refine z_iconst (v := (3 : Int32)) C0 dX5_readLine_83 (by decide) ?_
              refine z_iload_n C0 dX5_readLine_84 rfl 1 rfl ?_
              obtain ⟨μ21, e_μ21, h⟩ := zl_of h
              refine z_callV (As := [.int (3 : Int32), .int x1]) (rest := []) C0 rfl kc_X5_note km_RX5_145 (r_X5_note (l := l) (g := g) a0 (3 : Int32) x1 μ18 hT0 e_μ21.symm) hT0.1 hT0.2.2.1 rfl (by decide) rfl (Nat.le_of_ble_eq_true rfl) (Nat.le_of_ble_eq_true rfl) (Nat.le_of_ble_eq_true rfl) (Nat.le_of_ble_eq_true rfl) (Nat.le_refl _) rfl rfl dX5_readLine_85 ?_
              refine z_sub (lo1 := []) [] rfl ?_
              obtain rfl := h
              exact k_J20
        · have h := zif_f c15 h
          refine z_aload_n C0 dX5_readLine_65 rfl 0 rfl ?_
          obtain ⟨μ23, e_μ23, h⟩ := zl_of h
          refine z_callV (As := []) (rest := []) C0 rfl kc_X5_breakOff km_RX5_127 (r_X5_breakOff (l := l) (g := g) a0 μ12 hT0 e_μ23.symm) hT0.1 hT0.2.2.1 rfl (by decide) rfl (Nat.le_of_ble_eq_true rfl) (Nat.le_of_ble_eq_true rfl) (Nat.le_of_ble_eq_true rfl) (Nat.le_of_ble_eq_true rfl) (Nat.le_refl _) rfl rfl dX5_readLine_66 ?_
          have h := Option.some.inj h
          obtain rfl := h
          exact z_vret C0 rfl dX5_readLine_69
      · have h := zif_f (fun q => q c13) h
        have h := Option.some.inj h
        obtain rfl := h
        exact z_vret C0 rfl dX5_readLine_56
    · have h := e_μ12
      by_cases hc25 : (w4 = 23) ∧ (¬ ((μ7 a0 2) = (1 : Int32)))
      · have h := zif_t hc25 h
        refine z_join μ7 44 [(3, .ref (kad κ w4)), (2, .int x1), (0, .ref (zb g + a0)), (1, .int v1)] [] ?_ (fun k26 => ?_)
        · refine z_aload_n C0 dX5_readLine_44 rfl 2 rfl ?_
          obtain ⟨μ11, e_μ11, h⟩ := zbd_of h
          refine z_callV (As := []) (rest := []) C0 rfl kc_X5_readFurtherGraves km_RX5_138 (r_X5_readFurtherGraves (l := l) (g := g) a0 μ7 hT0 hSp e_μ11) hT0.1 hT0.2.2.1 rfl (by decide) rfl (Nat.le_of_ble_eq_true rfl) (Nat.le_of_ble_eq_true rfl) (Nat.le_of_ble_eq_true rfl) (Nat.le_of_ble_eq_true rfl) (Nat.le_refl _) rfl rfl dX5_readLine_45 ?_
          refine z_sub (lo1 := [(0, .ref (zb g + a0)), (2, .int x1), (3, .ref (kad κ w4))]) [2, 1, 0] rfl ?_
          obtain rfl := (Option.some.inj h)
          exact k_J10
        · refine z_acmp_neW C0 48 dX5_readLine_33 (by decide) hF.2.2.2.2.1 (zgw_of g5) (by decide) (fun c8 => ?_) (fun c8 => ?_)
          · exact absurd hc25 (fun q => c8 q.1)
          · refine z_aload_n C0 dX5_readLine_36 rfl 2 rfl ?_
            refine z_geti C0 hT0.1 hT0.2.2.1 kf_5_51 zr_5_2 dX5_readLine_37 ?_
            refine z_iconst (v := (1 : Int32)) C0 dX5_readLine_40 (by decide) ?_
            refine z_icmp_eq C0 48 dX5_readLine_41 (by decide) (fun c9 => ?_) (fun c9 => ?_)
            · exact absurd hc25 (fun q => (fun q => q c9) q.2)
            · exact k26
      · have h := zif_f hc25 h
        refine z_join μ7 48 [(3, .ref (kad κ w4)), (2, .int x1), (0, .ref (zb g + a0)), (1, .int v1)] [] ?_ (fun k27 => ?_)
        · refine z_sub (lo1 := [(0, .ref (zb g + a0)), (2, .int x1), (3, .ref (kad κ w4))]) [2, 1, 0] rfl ?_
          obtain rfl := (Option.some.inj h)
          exact k_J10
        · refine z_acmp_neW C0 48 dX5_readLine_33 (by decide) hF.2.2.2.2.1 (zgw_of g5) (by decide) (fun c8 => ?_) (fun c8 => ?_)
          · exact k27
          · refine z_aload_n C0 dX5_readLine_36 rfl 2 rfl ?_
            refine z_geti C0 hT0.1 hT0.2.2.1 kf_5_51 zr_5_2 dX5_readLine_37 ?_
            refine z_iconst (v := (1 : Int32)) C0 dX5_readLine_40 (by decide) ?_
            refine z_icmp_eq C0 48 dX5_readLine_41 (by decide) (fun c9 => ?_) (fun c9 => ?_)
            · exact k27
            · exact absurd ⟨c8, c9⟩ hc25
  · have h_c24 := zcase_n c24 h
    clear h
    subst c24
    have h := h_c24
    refine z_loc (lo1 := [(3, .null), (2, .int x1), (0, .ref (zb g + a0)), (1, .int v1)]) rfl ?_
    refine z_aload_n C0 dX5_readLine_15 rfl 2 rfl ?_
    obtain ⟨μ3, e_μ3, h⟩ := zl_of h
    refine z_callV (As := []) (rest := []) C0 rfl kc_X5_breakOff km_RX5_127 (r_X5_breakOff (l := l) (g := g) a0 μ hT0 e_μ3.symm) hT0.1 hT0.2.2.1 rfl (by decide) rfl (Nat.le_of_ble_eq_true rfl) (Nat.le_of_ble_eq_true rfl) (Nat.le_of_ble_eq_true rfl) (Nat.le_of_ble_eq_true rfl) (Nat.le_refl _) rfl rfl dX5_readLine_16 ?_
    have h := Option.some.inj h
    obtain rfl := h
    exact z_vret C0 rfl dX5_readLine_19
def f_X5_read_L40 (a0 : Nat) (v3 : Int32) : Nat → Int32 → zM → Option (zM)
  | 0, _, _ => none
  | n + 1, y8, μ9 =>
    if (5 : Int32) ≤ y8 then
      some μ9
    else
      zg (zin y8 5) <|
      zl (zup μ9 (a0 + 19 + 2 * y8.toNatClampNeg) 2 (0 : Int32)) fun μ12 =>
      zl (y8 + (1 : Int32)) fun x13 =>
      f_X5_read_L40 a0 v3 n x13 μ12
def f_X5_read_L70 (a0 : Nat) (v3 : Int32) : Nat → Int32 → zM → Option (zM)
  | 0, _, _ => none
  | n + 1, y17, μ18 =>
    if (¬ ((μ18 a0 5) < y17)) ∧ ((¬ ((μ18 a0 6) = 0)) ∧ (¬ ((μ18 a0 2) = (1 : Int32)))) then
      zbd (f_X5_readLine a0 v3 μ18) fun μ22 =>
      zl (y17 + (1 : Int32)) fun x23 =>
      f_X5_read_L70 a0 v3 n x23 μ22
    else
      some μ18
def f_X5_read (a0 : Nat) (a1 : Nat) (v2 : Int32) (v3 : Int32) (μ : zM) : Option (zM) :=
  zl (zup μ a0 4 (nI a1)) fun μ1 =>
  zl (zup μ1 a0 5 (zmin v2 (Int32.ofNat (zln a1)))) fun μ2 =>
  zl (zup μ2 a0 2 (0 : Int32)) fun μ3 =>
  zl (zup μ3 a0 3 (-1 : Int32)) fun μ4 =>
  zl (zup μ4 a0 8 (0 : Int32)) fun μ5 =>
  zbd (f_X1_forget (a0 + 1) μ5) fun μ6 =>
  zbd (f_X5_read_L40 a0 v3 zFU (0 : Int32) μ6) fun μ14 =>
  zbd (f_X5_look a0 μ14) fun μ15 =>
  zbd (f_X5_read_L70 a0 v3 zFU (0 : Int32) μ15) fun μ24 =>
  zbd (if ((μ24 a0 2) = 0) ∧ (v3 = 0) then
      zbd (f_X1_settle (a0 + 1) μ24) fun μ28 =>
      zbd (f_X1_wholeFault (a0 + 1) μ28) fun r29 =>
      zl (zup μ28 a0 2 r29) fun μ30 =>
      zl (if ¬ (μ30 a0 2) = 0 then
          (μ30 a0 5)
        else
          (-1 : Int32)) fun x33 =>
      zl (zup μ30 a0 3 x33) fun μ34 =>
      some μ34
    else
      some μ24) fun μ35 =>
  some μ35
set_option maxHeartbeats 4000000 in
set_option maxRecDepth 100000 in
theorem r_X5_read_L40 {l : Launch} {g : zL} {κ : zK} {p : Program} {e : Env} {s : State} {m : MethodId} {args : Array Value} {below : List Frame} {meth : Method} {c : Code} {Q : State → Prop} (C0 : zC p s m args meth c g cX5_read yX5_read 5 none) (hSp : zSK g κ) (a0 : Nat) (v3 : Int32) (hU7 : zT zNN zσ1 a0 5) : ∀ (n : Nat) (y8 : Int32) (μ9 : zM) (μ14 : zM), f_X5_read_L40 a0 v3 n y8 μ9 = some μ14 → Z p l e (zrm 7 0 0) s m args below meth c g Q 5 zNN 0 0 zσ1 μ14 63 [(0, .ref (zb g + a0)), (3, .int v3)] [] → Z p l e (zrm 7 0 0) s m args below meth c g Q 5 zNN 0 0 zσ1 μ9 40 [(0, .ref (zb g + a0)), (3, .int v3), (4, .int y8)] [] := by
  have hF := hSp.at C0
  intro n
  induction n with
  | zero =>
    intro y8 μ9 μ14 h kx
    rw [f_X5_read_L40] at h
    cases h
  | succ n ih =>
    intro y8 μ9 μ14 h kx
    rw [f_X5_read_L40] at h
    refine z_iload C0 dX5_read_40 2 rfl ?_
    refine z_iconst (v := (5 : Int32)) C0 dX5_read_42 (by decide) ?_
    refine z_icmp_ge C0 63 dX5_read_43 (by decide) (fun c10 => ?_) (fun c10 => ?_)
    · have h := zif_t c10 h
      refine z_sub (lo1 := [(0, .ref (zb g + a0)), (3, .int v3)]) [0, 1] rfl ?_
      obtain rfl := (Option.some.inj h)
      exact kx
    · have h := zif_f c10 h
      refine z_aload_n C0 dX5_read_46 rfl 0 rfl ?_
      refine z_getr C0 hU7 kf_5_20 zr_5_1 zx_5 (zs_5_1 hU7).1 dX5_read_47 ?_
      refine z_iload C0 dX5_read_50 2 rfl ?_
      obtain ⟨g11, h⟩ := zg_of h
      refine z_aald C0 (zs_5_1 hU7).2 (by decide) (by decide) g11 (ze_5_1 hU7 g11).1 (ze_5_1 hU7 g11).2.1 dX5_read_52 ?_
      refine z_iconst (v := (0 : Int32)) C0 dX5_read_53 (by decide) ?_
      obtain ⟨μ12, e_μ12, h⟩ := zl_of h
      refine z_puti C0 (ze_5_1 hU7 g11).2.2.1 (ze_5_1 hU7 g11).2.2.2.2.1 kf_5_60 zp_6_2 zr_6_2 e_μ12 dX5_read_54 ?_
      obtain ⟨x13, e_x13, h⟩ := zl_of h
      refine z_iinc (lo1 := [(4, .int x13), (0, .ref (zb g + a0)), (3, .int v3)]) C0 dX5_read_57 2 rfl (by decide) e_x13.symm (by decide) rfl ?_
      refine z_goto C0 40 dX5_read_60 (by decide) ?_
      refine z_sub (lo1 := [(0, .ref (zb g + a0)), (3, .int v3), (4, .int x13)]) [1, 2, 0] rfl ?_
      exact ih _ _ _ h kx
set_option maxHeartbeats 4000000 in
set_option maxRecDepth 100000 in
theorem r_X5_read_L70 {l : Launch} {g : zL} {κ : zK} {p : Program} {e : Env} {s : State} {m : MethodId} {args : Array Value} {below : List Frame} {meth : Method} {c : Code} {Q : State → Prop} (C0 : zC p s m args meth c g cX5_read yX5_read 5 none) (hSp : zSK g κ) (a0 : Nat) (v3 : Int32) (hU16 : zT zNN zσ1 a0 5) : ∀ (n : Nat) (y17 : Int32) (μ18 : zM) (μ24 : zM), f_X5_read_L70 a0 v3 n y17 μ18 = some μ24 → Z p l e (zrm 7 0 0) s m args below meth c g Q 5 zNN 0 0 zσ1 μ24 105 [(0, .ref (zb g + a0)), (3, .int v3)] [] → Z p l e (zrm 7 0 0) s m args below meth c g Q 5 zNN 0 0 zσ1 μ18 70 [(0, .ref (zb g + a0)), (3, .int v3), (4, .int y17)] [] := by
  have hF := hSp.at C0
  intro n
  induction n with
  | zero =>
    intro y17 μ18 μ24 h kx
    rw [f_X5_read_L70] at h
    cases h
  | succ n ih =>
    intro y17 μ18 μ24 h kx
    rw [f_X5_read_L70] at h
    refine z_iload C0 dX5_read_70 2 rfl ?_
    refine z_aload_n C0 dX5_read_72 rfl 0 rfl ?_
    refine z_geti C0 hU16.1 hU16.2.2.1 kf_5_48 zr_5_5 dX5_read_73 ?_
    by_cases hc36 : (¬ ((μ18 a0 5) < y17)) ∧ ((¬ ((μ18 a0 6) = 0)) ∧ (¬ ((μ18 a0 2) = (1 : Int32))))
    · have h := zif_t hc36 h
      refine z_join μ18 94 [(0, .ref (zb g + a0)), (3, .int v3), (4, .int y17)] [] ?_ (fun k37 => ?_)
      · refine z_aload_n C0 dX5_read_94 rfl 0 rfl ?_
        refine z_iload_n C0 dX5_read_95 rfl 1 rfl ?_
        obtain ⟨μ22, e_μ22, h⟩ := zbd_of h
        refine z_callV (As := [.int v3]) (rest := []) C0 rfl kc_X5_readLine km_RX5_69 (r_X5_readLine (l := l) (g := g) a0 v3 μ18 hU16 hSp e_μ22) hU16.1 hU16.2.2.1 rfl (by decide) rfl (Nat.le_of_ble_eq_true rfl) (Nat.le_of_ble_eq_true rfl) (Nat.le_of_ble_eq_true rfl) (Nat.le_of_ble_eq_true rfl) (Nat.le_refl _) rfl rfl dX5_read_96 ?_
        obtain ⟨x23, e_x23, h⟩ := zl_of h
        refine z_iinc (lo1 := [(4, .int x23), (0, .ref (zb g + a0)), (3, .int v3)]) C0 dX5_read_99 2 rfl (by decide) e_x23.symm (by decide) rfl ?_
        refine z_goto C0 70 dX5_read_102 (by decide) ?_
        refine z_sub (lo1 := [(0, .ref (zb g + a0)), (3, .int v3), (4, .int x23)]) [1, 2, 0] rfl ?_
        exact ih _ _ _ h kx
      · refine z_icmp_gt C0 105 dX5_read_76 (by decide) (fun c19 => ?_) (fun c19 => ?_)
        · exact absurd hc36 (fun q => q.1 c19)
        · refine z_aload_n C0 dX5_read_79 rfl 0 rfl ?_
          refine z_geti C0 hU16.1 hU16.2.2.1 kf_5_66 zr_5_6 dX5_read_80 ?_
          refine z_if_eq C0 105 dX5_read_83 (by decide) (fun c20 => ?_) (fun c20 => ?_)
          · exact absurd hc36 (fun q => (fun q => q.1 c20) q.2)
          · refine z_aload_n C0 dX5_read_86 rfl 0 rfl ?_
            refine z_geti C0 hU16.1 hU16.2.2.1 kf_5_51 zr_5_2 dX5_read_87 ?_
            refine z_iconst (v := (1 : Int32)) C0 dX5_read_90 (by decide) ?_
            refine z_icmp_eq C0 105 dX5_read_91 (by decide) (fun c21 => ?_) (fun c21 => ?_)
            · exact absurd hc36 (fun q => (fun q => (fun q => q c21) q.2) q.2)
            · exact k37
    · have h := zif_f hc36 h
      refine z_join μ18 105 [(0, .ref (zb g + a0)), (3, .int v3), (4, .int y17)] [] ?_ (fun k38 => ?_)
      · refine z_sub (lo1 := [(0, .ref (zb g + a0)), (3, .int v3)]) [0, 1] rfl ?_
        obtain rfl := (Option.some.inj h)
        exact kx
      · refine z_icmp_gt C0 105 dX5_read_76 (by decide) (fun c19 => ?_) (fun c19 => ?_)
        · exact k38
        · refine z_aload_n C0 dX5_read_79 rfl 0 rfl ?_
          refine z_geti C0 hU16.1 hU16.2.2.1 kf_5_66 zr_5_6 dX5_read_80 ?_
          refine z_if_eq C0 105 dX5_read_83 (by decide) (fun c20 => ?_) (fun c20 => ?_)
          · exact k38
          · refine z_aload_n C0 dX5_read_86 rfl 0 rfl ?_
            refine z_geti C0 hU16.1 hU16.2.2.1 kf_5_51 zr_5_2 dX5_read_87 ?_
            refine z_iconst (v := (1 : Int32)) C0 dX5_read_90 (by decide) ?_
            refine z_icmp_eq C0 105 dX5_read_91 (by decide) (fun c21 => ?_) (fun c21 => ?_)
            · exact k38
            · exact absurd ⟨c19, ⟨c20, c21⟩⟩ hc36
set_option maxHeartbeats 4000000 in
set_option maxRecDepth 100000 in
theorem r_X5_read {l : Launch} {g : zL} {κ : zK} (a0 : Nat) (a1 : Nat) (v2 : Int32) (v3 : Int32) (μ : zM) (hT0 : zT zNN zσ1 a0 5) (hA1 : zAr zNN a1 20 (zln a1)) (hSp : zSK g κ) {μr : zM} (h : f_X5_read a0 a1 v2 v3 μ = some μr) : zMet l g yX5_read cX5_read 5 none 7 0 0 zNN zNN zσ1 zσ1 [.ref (zb g + a0), .ref (zb g + a1), .int v2, .int v3] μ none μr := by
  refine zMet.of (by decide +kernel) (Nat.le_of_ble_eq_true rfl) ?_
  intro p e s m args below meth c C0
  have hF := hSp.at C0
  refine z_loc (lo1 := [(0, .ref (zb g + a0)), (1, .ref (zb g + a1)), (2, .int v2), (3, .int v3)]) rfl ?_
  unfold f_X5_read at h
  refine z_aload_n C0 dX5_read_0 rfl 0 rfl ?_
  refine z_aload_n C0 dX5_read_1 rfl 1 rfl ?_
  obtain ⟨μ1, e_μ1, h⟩ := zl_of h
  refine z_putd C0 hT0.1 hT0.2.2.1 kf_5_28 zp_5_4 zr_5_4 (fun _ => ⟨rfl, rfl⟩) rfl (Nat.lt_trans hA1.1 (by decide)) e_μ1 dX5_read_2 ?_
  refine z_aload_n C0 dX5_read_5 rfl 0 rfl ?_
  refine z_iload_n C0 dX5_read_6 rfl 2 rfl ?_
  refine z_aload_n C0 dX5_read_7 rfl 1 rfl ?_
  refine z_alen (v := (Int32.ofNat (zln a1))) C0 hA1 (by decide) (by decide) rfl dX5_read_8 ?_
  refine z_mmin C0 rfl kM_RX5_42 kM_min (Nat.le_of_ble_eq_true rfl) (Nat.zero_le _) (Nat.zero_le _) dX5_read_9 ?_
  obtain ⟨μ2, e_μ2, h⟩ := zl_of h
  refine z_puti C0 hT0.1 hT0.2.2.1 kf_5_48 zp_5_5 zr_5_5 e_μ2 dX5_read_12 ?_
  refine z_aload_n C0 dX5_read_15 rfl 0 rfl ?_
  refine z_iconst (v := (0 : Int32)) C0 dX5_read_16 (by decide) ?_
  obtain ⟨μ3, e_μ3, h⟩ := zl_of h
  refine z_puti C0 hT0.1 hT0.2.2.1 kf_5_51 zp_5_2 zr_5_2 e_μ3 dX5_read_17 ?_
  refine z_aload_n C0 dX5_read_20 rfl 0 rfl ?_
  refine z_iconst (v := (-1 : Int32)) C0 dX5_read_21 (by decide) ?_
  obtain ⟨μ4, e_μ4, h⟩ := zl_of h
  refine z_puti C0 hT0.1 hT0.2.2.1 kf_5_24 zp_5_3 zr_5_3 e_μ4 dX5_read_22 ?_
  refine z_aload_n C0 dX5_read_25 rfl 0 rfl ?_
  refine z_iconst (v := (0 : Int32)) C0 dX5_read_26 (by decide) ?_
  obtain ⟨μ5, e_μ5, h⟩ := zl_of h
  refine z_puti C0 hT0.1 hT0.2.2.1 kf_5_54 zp_5_8 zr_5_8 e_μ5 dX5_read_27 ?_
  refine z_aload_n C0 dX5_read_30 rfl 0 rfl ?_
  refine z_getr C0 hT0 kf_5_12 zr_5_0 zx_5 (zs_5_0 hT0).1 dX5_read_31 ?_
  obtain ⟨μ6, e_μ6, h⟩ := zbd_of h
  refine z_callV (As := []) (rest := []) C0 rfl kc_X1_forget km_RX5_57 (r_X1_forget (l := l) (g := g) (a0 + 1) μ5 (zs_5_0 hT0).2 hSp e_μ6) (zs_5_0 hT0).2.1 (zs_5_0 hT0).2.2.2.1 rfl (by decide) rfl (Nat.le_of_ble_eq_true rfl) (Nat.le_of_ble_eq_true rfl) (Nat.le_of_ble_eq_true rfl) (Nat.le_of_ble_eq_true rfl) (Nat.le_refl _) rfl rfl dX5_read_34 ?_
  refine z_iconst (v := (0 : Int32)) C0 dX5_read_37 (by decide) ?_
  refine z_istore (lo1 := [(4, .int (0 : Int32)), (0, .ref (zb g + a0)), (1, .ref (zb g + a1)), (2, .int v2), (3, .int v3)]) C0 dX5_read_38 (by decide) rfl ?_
  refine z_sub (lo1 := [(0, .ref (zb g + a0)), (3, .int v3), (4, .int (0 : Int32))]) [1, 4, 0] rfl ?_
  obtain ⟨μ14, e_μ14, h⟩ := zbd_of h
  refine r_X5_read_L40 C0 hSp a0 v3 hT0 zFU (0 : Int32) μ6 μ14 e_μ14 ?_
  refine z_aload_n C0 dX5_read_63 rfl 0 rfl ?_
  obtain ⟨μ15, e_μ15, h⟩ := zbd_of h
  refine z_callV (As := []) (rest := []) C0 rfl kc_X5_look km_RX5_63 (r_X5_look (l := l) (g := g) a0 μ14 hT0 e_μ15) hT0.1 hT0.2.2.1 rfl (by decide) rfl (Nat.le_of_ble_eq_true rfl) (Nat.le_of_ble_eq_true rfl) (Nat.le_of_ble_eq_true rfl) (Nat.le_of_ble_eq_true rfl) (Nat.le_refl _) rfl rfl dX5_read_64 ?_
  refine z_iconst (v := (0 : Int32)) C0 dX5_read_67 (by decide) ?_
  refine z_istore (lo1 := [(4, .int (0 : Int32)), (0, .ref (zb g + a0)), (3, .int v3)]) C0 dX5_read_68 (by decide) rfl ?_
  refine z_sub (lo1 := [(0, .ref (zb g + a0)), (3, .int v3), (4, .int (0 : Int32))]) [1, 2, 0] rfl ?_
  obtain ⟨μ24, e_μ24, h⟩ := zbd_of h
  refine r_X5_read_L70 C0 hSp a0 v3 hT0 zFU (0 : Int32) μ15 μ24 e_μ24 ?_
  refine z_aload_n C0 dX5_read_105 rfl 0 rfl ?_
  refine z_geti C0 hT0.1 hT0.2.2.1 kf_5_51 zr_5_2 dX5_read_106 ?_
  obtain ⟨μ35, e_μ35, h⟩ := zbd_of h
  refine z_join μ35 153 [] [] ?_ (fun k_J27 => ?_)
  · have h := Option.some.inj h
    obtain rfl := h
    exact z_vret C0 rfl dX5_read_153
  · have h := e_μ35
    by_cases hc39 : ((μ24 a0 2) = 0) ∧ (v3 = 0)
    · have h := zif_t hc39 h
      refine z_join μ24 116 [(0, .ref (zb g + a0)), (3, .int v3)] [] ?_ (fun k40 => ?_)
      · refine z_aload_n C0 dX5_read_116 rfl 0 rfl ?_
        refine z_getr C0 hT0 kf_5_12 zr_5_0 zx_5 (zs_5_0 hT0).1 dX5_read_117 ?_
        obtain ⟨μ28, e_μ28, h⟩ := zbd_of h
        refine z_callV (As := []) (rest := []) C0 rfl kc_X1_settle km_RX5_72 (r_X1_settle (l := l) (g := g) (a0 + 1) μ24 (zs_5_0 hT0).2 e_μ28) (zs_5_0 hT0).2.1 (zs_5_0 hT0).2.2.2.1 rfl (by decide) rfl (Nat.le_of_ble_eq_true rfl) (Nat.le_of_ble_eq_true rfl) (Nat.le_of_ble_eq_true rfl) (Nat.le_of_ble_eq_true rfl) (Nat.le_refl _) rfl rfl dX5_read_120 ?_
        refine z_aload_n C0 dX5_read_123 rfl 0 rfl ?_
        refine z_aload_n C0 dX5_read_124 rfl 0 rfl ?_
        refine z_getr C0 hT0 kf_5_12 zr_5_0 zx_5 (zs_5_0 hT0).1 dX5_read_125 ?_
        obtain ⟨r29, e_r29, h⟩ := zbd_of h
        refine z_callV (As := []) (rest := [.ref (zb g + a0)]) C0 rfl kc_X1_wholeFault km_RX5_75 (r_X1_wholeFault (l := l) (g := g) (a0 + 1) μ28 (zs_5_0 hT0).2 e_r29) (zs_5_0 hT0).2.1 (zs_5_0 hT0).2.2.2.1 rfl (by decide) rfl (Nat.le_of_ble_eq_true rfl) (Nat.le_of_ble_eq_true rfl) (Nat.le_of_ble_eq_true rfl) (Nat.le_of_ble_eq_true rfl) (Nat.le_refl _) rfl rfl dX5_read_128 ?_
        obtain ⟨μ30, e_μ30, h⟩ := zl_of h
        refine z_puti C0 hT0.1 hT0.2.2.1 kf_5_51 zp_5_2 zr_5_2 e_μ30 dX5_read_131 ?_
        refine z_aload_n C0 dX5_read_134 rfl 0 rfl ?_
        refine z_aload_n C0 dX5_read_135 rfl 0 rfl ?_
        refine z_geti C0 hT0.1 hT0.2.2.1 kf_5_51 zr_5_2 dX5_read_136 ?_
        obtain ⟨x33, e_x33, h⟩ := zl_of h
        refine z_join μ30 150 [] [.int x33, .ref (zb g + a0)] ?_ (fun k_J32 => ?_)
        · obtain ⟨μ34, e_μ34, h⟩ := zl_of h
          refine z_puti C0 hT0.1 hT0.2.2.1 kf_5_24 zp_5_3 zr_5_3 e_μ34 dX5_read_150 ?_
          obtain rfl := (Option.some.inj h)
          exact k_J27
        · have h := e_x33.symm
          refine z_if_ne C0 146 dX5_read_139 (by decide) (fun c31 => ?_) (fun c31 => ?_)
          · have h := zif_t c31 h
            refine z_aload_n C0 dX5_read_146 rfl 0 rfl ?_
            refine z_geti C0 hT0.1 hT0.2.2.1 kf_5_48 zr_5_5 dX5_read_147 ?_
            refine z_sub (lo1 := []) [] rfl ?_
            obtain rfl := h
            exact k_J32
          · have h := zif_f (fun q => q c31) h
            refine z_iconst (v := (-1 : Int32)) C0 dX5_read_142 (by decide) ?_
            refine z_goto C0 150 dX5_read_143 (by decide) ?_
            refine z_sub (lo1 := []) [] rfl ?_
            obtain rfl := h
            exact k_J32
      · refine z_if_ne C0 153 dX5_read_109 (by decide) (fun c25 => ?_) (fun c25 => ?_)
        · exact absurd hc39 (fun q => c25 q.1)
        · refine z_iload_n C0 dX5_read_112 rfl 1 rfl ?_
          refine z_if_ne C0 153 dX5_read_113 (by decide) (fun c26 => ?_) (fun c26 => ?_)
          · exact absurd hc39 (fun q => (fun q => c26 q) q.2)
          · exact k40
    · have h := zif_f hc39 h
      refine z_join μ24 153 [(0, .ref (zb g + a0)), (3, .int v3)] [] ?_ (fun k41 => ?_)
      · refine z_sub (lo1 := []) [] rfl ?_
        obtain rfl := (Option.some.inj h)
        exact k_J27
      · refine z_if_ne C0 153 dX5_read_109 (by decide) (fun c25 => ?_) (fun c25 => ?_)
        · exact k41
        · refine z_iload_n C0 dX5_read_112 rfl 1 rfl ?_
          refine z_if_ne C0 153 dX5_read_113 (by decide) (fun c26 => ?_) (fun c26 => ?_)
          · exact k41
          · exact absurd ⟨c25, c26⟩ hc39
