theorem kl_J0_38 : Cond.fieldLink RJ0 38 "java/lang/String" "COMPACT_STRINGS" "Z" ∈ ztbl := zmk3 37 (by decide +kernel) rfl
theorem kl_J0_9 : Cond.fieldLink RJ0 9 "java/lang/String" "value" "[B" ∈ ztbl := zmk8 141 (by decide +kernel) rfl
theorem kl_J0_15 : Cond.fieldLink RJ0 15 "java/lang/String" "coder" "B" ∈ ztbl := zmk8 142 (by decide +kernel) rfl
theorem kl_J0_1053 : Cond.fieldLink RJ0 1053 "jdk/internal/util/Preconditions" "SIOOBE_FORMATTER" "Ljava/util/function/BiFunction;" ∈ ztbl := zmk3 53 (by decide +kernel) rfl
theorem kl_1_51 : Cond.fieldLink RX1 51 RX1 "AT_FIRST" "[I" ∈ ztbl := zmk1 78 (by decide +kernel) rfl
theorem kl_5_98 : Cond.fieldLink RX5 98 RX5 "WORDS" "[LGraveRegatta$Word;" ∈ ztbl := zmk3 18 (by decide +kernel) rfl
theorem kl_5_134 : Cond.fieldLink RX5 134 RX10 "DEAD" "LGraveRegatta$Word;" ∈ ztbl := zmk3 103 (by decide +kernel) rfl
theorem kl_5_152 : Cond.fieldLink RX5 152 RX10 "BROTHERS" "LGraveRegatta$Word;" ∈ ztbl := zmk3 93 (by decide +kernel) rfl
theorem kl_10_115 : Cond.fieldLink RX10 115 RX10 "code" "I" ∈ ztbl := zmk8 139 (by decide +kernel) rfl
theorem kl_10_123 : Cond.fieldLink RX10 123 RX10 "first" "I" ∈ ztbl := zmk8 143 (by decide +kernel) rfl
theorem kl_10_126 : Cond.fieldLink RX10 126 RX10 "second" "I" ∈ ztbl := zmk8 144 (by decide +kernel) rfl
theorem kl_10_129 : Cond.fieldLink RX10 129 RX10 "third" "I" ∈ ztbl := zmk8 145 (by decide +kernel) rfl
theorem kl_12_120 : Cond.fieldLink RX12 120 RX12 "BOUNDS" "[I" ∈ ztbl := zmk6 205 (by decide +kernel) rfl
theorem zW_byte : ∀ i, i < 30 → ∀ j, j < (zWl i).length → (((zWl i).getD j 0 &&& 255).toUInt32 % 65536).toInt32 = (zWl i).getD j 0 ∧ narrow .char (.int ((zWl i).getD j 0)) = .int ((zWl i).getD j 0) := by decide +kernel
theorem zWd_len : ∀ i, i < 30 → Int32.ofNat (zWl i).length >>> ((0 : Int32) &&& 31) = Int32.ofNat (zWl i).length := by decide +kernel
theorem zW_zin : ∀ i, i < 30 → ∀ x : Int32, zin x (zWl i).length = true → (¬ x < 0) ∧ x < Int32.ofNat (zWl i).length := by
  intro i hi x h
  have hl : (zWl i).length < 100 := (by decide +kernel : ∀ i, i < 30 → (zWl i).length < 100) i hi
  have h1 := zin_vp h
  have h2 := zin_lt h
  refine ⟨fun q => h1 (Or.inl q), ?_⟩
  rw [Int32.lt_iff_toInt_lt, Int32.toInt_ofNat_of_lt (by omega)]
  have h3 : (x.toInt.toNat : Int) = x.toInt := Int.toNat_of_nonneg (by
    have := Int32.not_lt.mp (fun q => h1 (Or.inl q))
    simpa using Int32.le_iff_toInt_le.mp this)
  have h4 : x.toNatClampNeg = x.toInt.toNat := rfl
  omega
set_option maxHeartbeats 4000000 in
set_option maxRecDepth 100000 in
theorem r_J0_coder {l : Launch} {g : zL} {κ : zK} {N : Nat} {σ : Nat → Nat → Bool} {μ : zM} (i : Nat) (hi : i < 30) (hSp : zSK g κ) : zMet l g yJ0_coder_7d493 cJ0_coder_7d493 1 (some (.byte)) 0 0 0 N N σ σ [.ref (ksd κ i)] μ (some (.int 0)) μ := by
  refine zMet.of (by decide +kernel) (Nat.le_of_ble_eq_true rfl) ?_
  intro p e s m args below meth c C0
  have hF := hSp.at C0
  obtain ⟨-, -, -, -, -, hs, ⟨hcs, -⟩, -⟩ := hF
  refine z_loc (lo1 := [(0, .ref (ksd κ i))]) rfl ?_
  refine z_gets C0 hcs kl_J0_38 dJ0_coder_7d493_0 ?_
  refine z_if_eq C0 13 dJ0_coder_7d493_3 (by decide) (fun q => absurd q (by decide)) (fun _ => ?_)
  refine z_aload_n C0 dJ0_coder_7d493_6 rfl 0 rfl ?_
  refine z_getO C0 (hs i hi).2.1 kl_J0_15 dJ0_coder_7d493_7 ?_
  refine z_goto C0 14 dJ0_coder_7d493_10 (by decide) ?_
  exact z_nret C0 rfl (by decide +kernel) dJ0_coder_7d493_14
set_option maxHeartbeats 4000000 in
set_option maxRecDepth 100000 in
theorem r_J0_isLatin1 {l : Launch} {g : zL} {κ : zK} {N : Nat} {σ : Nat → Nat → Bool} {μ : zM} (i : Nat) (hi : i < 30) (hSp : zSK g κ) : zMet l g yJ0_isLatin1_aae02 cJ0_isLatin1_aae02 1 (some (.boolean)) 0 0 0 N N σ σ [.ref (ksd κ i)] μ (some (.int 1)) μ := by
  refine zMet.of (by decide +kernel) (Nat.le_of_ble_eq_true rfl) ?_
  intro p e s m args below meth c C0
  have hF := hSp.at C0
  obtain ⟨-, -, -, -, -, hs, ⟨hcs, -⟩, -⟩ := hF
  refine z_loc (lo1 := [(0, .ref (ksd κ i))]) rfl ?_
  refine z_gets C0 hcs kl_J0_38 dJ0_isLatin1_aae02_0 ?_
  refine z_if_eq C0 17 dJ0_isLatin1_aae02_3 (by decide) (fun q => absurd q (by decide)) (fun _ => ?_)
  refine z_aload_n C0 dJ0_isLatin1_aae02_6 rfl 0 rfl ?_
  refine z_getO C0 (hs i hi).2.1 kl_J0_15 dJ0_isLatin1_aae02_7 ?_
  refine z_if_ne C0 17 dJ0_isLatin1_aae02_10 (by decide) (fun q => absurd rfl q) (fun _ => ?_)
  refine z_iconst (v := (1 : Int32)) C0 dJ0_isLatin1_aae02_13 (by decide) ?_
  refine z_goto C0 18 dJ0_isLatin1_aae02_14 (by decide) ?_
  exact z_nret C0 rfl (by decide +kernel) dJ0_isLatin1_aae02_18
set_option maxHeartbeats 4000000 in
set_option maxRecDepth 100000 in
theorem r_J0_length {l : Launch} {g : zL} {κ : zK} {N : Nat} {σ : Nat → Nat → Bool} {μ : zM} (i : Nat) (hi : i < 30) (hSp : zSK g κ) : zMet l g yJ0_length_8abf5 cJ0_length_8abf5 1 (some (.int)) 1 0 0 N N σ σ [.ref (ksd κ i)] μ (some (.int (Int32.ofNat (zWl i).length))) μ := by
  refine zMet.of (by decide +kernel) (Nat.le_of_ble_eq_true rfl) ?_
  intro p e s m args below meth c C0
  have hF := hSp.at C0
  obtain ⟨-, -, -, -, -, hs, ⟨hcs, -⟩, -⟩ := hF
  refine z_loc (lo1 := [(0, .ref (ksd κ i))]) rfl ?_
  refine z_aload_n C0 dJ0_length_8abf5_0 rfl 0 rfl ?_
  refine z_getO C0 (hs i hi).2.2.1 kl_J0_9 dJ0_length_8abf5_1 ?_
  refine z_alenT C0 (hs i hi).2.2.2 rfl dJ0_length_8abf5_4 ?_
  refine z_aload_n C0 dJ0_length_8abf5_5 rfl 0 rfl ?_
  refine z_callVO (As := []) (rest := [.int (Int32.ofNat (zWl i).length)]) C0 rfl kc_J0_coder_7d493 km_RJ0_335 (r_J0_coder i hi hSp) (hs i hi).1 rfl (Nat.le_of_ble_eq_true rfl) (Nat.le_of_ble_eq_true rfl) (Nat.le_of_ble_eq_true rfl) (Nat.le_of_ble_eq_true rfl) rfl rfl dJ0_length_8abf5_6 ?_
  refine z_ishr C0 dJ0_length_8abf5_9 ?_
  refine z_nm (zWd_len i hi).symm ?_
  exact z_iret C0 rfl dJ0_length_8abf5_10
set_option maxHeartbeats 4000000 in
set_option maxRecDepth 100000 in
theorem r_J3_checkIndex {l : Launch} {g : zL} {N : Nat} {σ : Nat → Nat → Bool} {μ : zM} (x n : Int32) (v : Value) (hv : v = .null ∨ ∃ a, v = .ref a) (h0 : ¬ x < 0) (h1 : x < n) : zMet l g yJ3_checkIndex_8e157 cJ3_checkIndex_8e157 3 (some (.int)) 0 0 0 N N σ σ [.int x, .int n, v] μ (some (.int x)) μ := by
  refine zMet.of (by decide +kernel) (by rcases hv with rfl | ⟨a, rfl⟩ <;> exact Nat.le_of_ble_eq_true rfl) ?_
  intro p e s m args below meth c C0
  refine z_loc (lo1 := [(0, .int x), (1, .int n), (2, v)]) (by rcases hv with rfl | ⟨a, rfl⟩ <;> rfl) ?_
  refine z_iload_n C0 dJ3_checkIndex_8e157_0 rfl 0 rfl ?_
  refine z_if_lt C0 9 dJ3_checkIndex_8e157_1 (by decide) (fun q => absurd q h0) (fun _ => ?_)
  refine z_iload_n C0 dJ3_checkIndex_8e157_4 rfl 0 rfl ?_
  refine z_iload_n C0 dJ3_checkIndex_8e157_5 rfl 1 rfl ?_
  refine z_icmp_lt C0 16 dJ3_checkIndex_8e157_6 (by decide) (fun _ => ?_) (fun q => absurd h1 q)
  refine z_iload_n C0 dJ3_checkIndex_8e157_16 rfl 0 rfl ?_
  exact z_iret C0 rfl dJ3_checkIndex_8e157_17
set_option maxHeartbeats 4000000 in
set_option maxRecDepth 100000 in
theorem r_J0_checkIndex {l : Launch} {g : zL} {κ : zK} {N : Nat} {σ : Nat → Nat → Bool} {μ : zM} (x n : Int32) (h0 : ¬ x < 0) (h1 : x < n) (hSp : zSK g κ) : zMet l g yJ0_checkIndex_df160 cJ0_checkIndex_df160 2 none 1 0 0 N N σ σ [.int x, .int n] μ none μ := by
  refine zMet.of (by decide +kernel) (Nat.le_of_ble_eq_true rfl) ?_
  intro p e s m args below meth c C0
  have hF := hSp.at C0
  obtain ⟨-, -, -, -, -, hs, ⟨-, hzq⟩, -⟩ := hF
  refine z_loc (lo1 := [(0, .int x), (1, .int n)]) rfl ?_
  refine z_iload_n C0 dJ0_checkIndex_df160_0 rfl 0 rfl ?_
  refine z_iload_n C0 dJ0_checkIndex_df160_1 rfl 1 rfl ?_
  obtain ⟨v, hv, hz⟩ : ∃ v, (v = .null ∨ ∃ a, v = .ref a) ∧ va_Z "jdk/internal/util/Preconditions" "SIOOBE_FORMATTER" "Ljava/util/function/BiFunction;" v (zA g) s g.2.2.2.1 := by
    rcases hzq with h | ⟨t, h⟩
    · exact ⟨_, Or.inl rfl, h⟩
    · exact ⟨_, Or.inr ⟨t, rfl⟩, h⟩
  refine z_gets C0 hz kl_J0_1053 dJ0_checkIndex_df160_2 ?_
  refine z_callS (As := [.int x, .int n, v]) (rest := []) C0 rfl kc_J3_checkIndex_8e157 km_RJ0_1059 (r_J3_checkIndex x n v hv h0 h1) rfl (Nat.le_of_ble_eq_true rfl) (Nat.le_of_ble_eq_true rfl) (Nat.le_of_ble_eq_true rfl) (Nat.le_of_ble_eq_true rfl) (Nat.le_refl _) rfl rfl dJ0_checkIndex_df160_5 ?_
  refine z_pop C0 dJ0_checkIndex_df160_8 rfl ?_
  exact z_vret C0 rfl dJ0_checkIndex_df160_9
set_option maxHeartbeats 4000000 in
set_option maxRecDepth 100000 in
theorem r_J1_charAt {l : Launch} {g : zL} {κ : zK} {N : Nat} {σ : Nat → Nat → Bool} {μ : zM} (i : Nat) (x : Int32) (hi : i < 30) (hx : zin x (zWl i).length = true) (hSp : zSK g κ) : zMet l g yJ1_charAt_3b067 cJ1_charAt_3b067 2 (some (.char)) 2 0 0 N N σ σ [.ref (kvd κ i), .int x] μ (some (.int ((zWl i).getD x.toNatClampNeg 0))) μ := by
  refine zMet.of (by decide +kernel) (Nat.le_of_ble_eq_true rfl) ?_
  intro p e s m args below meth c C0
  have hF := hSp.at C0
  obtain ⟨-, -, -, -, -, hs, -, -⟩ := hF
  have hb := zW_byte i hi _ (zin_lt hx)
  have hz := zW_zin i hi x hx
  refine z_loc (lo1 := [(0, .ref (kvd κ i)), (1, .int x)]) rfl ?_
  refine z_iload_n C0 dJ1_charAt_3b067_0 rfl 1 rfl ?_
  refine z_aload_n C0 dJ1_charAt_3b067_1 rfl 0 rfl ?_
  refine z_alenT C0 (hs i hi).2.2.2 rfl dJ1_charAt_3b067_2 ?_
  refine z_callS (As := [.int x, .int (Int32.ofNat (zWl i).length)]) (rest := []) C0 rfl kc_J0_checkIndex_df160 km_RJ1_9 (r_J0_checkIndex x _ hz.1 hz.2 hSp) rfl (Nat.le_of_ble_eq_true rfl) (Nat.le_of_ble_eq_true rfl) (Nat.le_of_ble_eq_true rfl) (Nat.le_of_ble_eq_true rfl) (Nat.le_refl _) rfl rfl dJ1_charAt_3b067_3 ?_
  refine z_aload_n C0 dJ1_charAt_3b067_6 rfl 0 rfl ?_
  refine z_iload_n C0 dJ1_charAt_3b067_7 rfl 1 rfl ?_
  refine z_baldT (f := fun j => (zWl i).getD j 0) C0 (hs i hi).2.2.2 hx rfl dJ1_charAt_3b067_8 ?_
  refine z_sipush (v := (255 : Int32)) C0 dJ1_charAt_3b067_9 (by decide) ?_
  refine z_iand C0 dJ1_charAt_3b067_12 ?_
  refine z_i2c C0 dJ1_charAt_3b067_13 hb.1 ?_
  exact z_nret C0 rfl hb.2 dJ1_charAt_3b067_14
set_option maxHeartbeats 4000000 in
set_option maxRecDepth 100000 in
theorem r_J0_charAt {l : Launch} {g : zL} {κ : zK} {N : Nat} {σ : Nat → Nat → Bool} {μ : zM} (i : Nat) (x : Int32) (hi : i < 30) (hx : zin x (zWl i).length = true) (hSp : zSK g κ) : zMet l g yJ0_charAt_5068e cJ0_charAt_5068e 2 (some (.char)) 3 0 0 N N σ σ [.ref (ksd κ i), .int x] μ (some (.int ((zWl i).getD x.toNatClampNeg 0))) μ := by
  refine zMet.of (by decide +kernel) (Nat.le_of_ble_eq_true rfl) ?_
  intro p e s m args below meth c C0
  have hF := hSp.at C0
  obtain ⟨-, -, -, -, -, hs, -, -⟩ := hF
  have hb := zW_byte i hi _ (zin_lt hx)
  refine z_loc (lo1 := [(0, .ref (ksd κ i)), (1, .int x)]) rfl ?_
  refine z_aload_n C0 dJ0_charAt_5068e_0 rfl 0 rfl ?_
  refine z_callVO (As := []) (rest := []) C0 rfl kc_J0_isLatin1_aae02 km_RJ0_492 (r_J0_isLatin1 i hi hSp) (hs i hi).1 rfl (Nat.le_of_ble_eq_true rfl) (Nat.le_of_ble_eq_true rfl) (Nat.le_of_ble_eq_true rfl) (Nat.le_of_ble_eq_true rfl) rfl rfl dJ0_charAt_5068e_1 ?_
  refine z_if_eq C0 16 dJ0_charAt_5068e_4 (by decide) (fun q => absurd q (by decide)) (fun _ => ?_)
  refine z_aload_n C0 dJ0_charAt_5068e_7 rfl 0 rfl ?_
  refine z_getO C0 (hs i hi).2.2.1 kl_J0_9 dJ0_charAt_5068e_8 ?_
  refine z_iload_n C0 dJ0_charAt_5068e_11 rfl 1 rfl ?_
  refine z_callS (As := [.ref (kvd κ i), .int x]) (rest := []) C0 rfl kc_J1_charAt_3b067 km_RJ0_495 (r_J1_charAt i x hi hx hSp) rfl (Nat.le_of_ble_eq_true rfl) (Nat.le_of_ble_eq_true rfl) (Nat.le_of_ble_eq_true rfl) (Nat.le_of_ble_eq_true rfl) (Nat.le_refl _) rfl rfl dJ0_charAt_5068e_12 ?_
  exact z_nret C0 rfl hb.2 dJ0_charAt_5068e_15
