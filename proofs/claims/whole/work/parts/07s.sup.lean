-- what the tables of part 06 say of each class (by program: tools/mksup.py)
theorem zx_0 : 0 < zex 0 := by decide +kernel
theorem zr_0_0 : zrk 0 0 = 1 := by decide +kernel
theorem zs_0_0 {N : Nat} {σ : Nat → Nat → Bool} {a : Nat} (h : zT N σ a 0) : zFX a 0 = (a + 1) ∧ zAr N (a + 1) 20 64 := by
  have t := (by decide +kernel : ∀ a, a < zNN → zkd a = 0 → zFX a 0 = a + 1 ∧ zkd (a + 1) = 20 ∧ zln (a + 1) = 64) a (zkd_lt (by rw [h.1]; decide)) h.1
  have e1 : zex 0 = 11 := by decide +kernel
  have h2 := h.2.1
  exact ⟨t.1, by omega, t.2⟩
theorem zr_0_1 : zrk 0 1 = 1 := by decide +kernel
theorem zs_0_1 {N : Nat} {σ : Nat → Nat → Bool} {a : Nat} (h : zT N σ a 0) : zFX a 1 = (a + 2) ∧ zAr N (a + 2) 20 9 := by
  have t := (by decide +kernel : ∀ a, a < zNN → zkd a = 0 → zFX a 1 = a + 2 ∧ zkd (a + 2) = 20 ∧ zln (a + 2) = 9) a (zkd_lt (by rw [h.1]; decide)) h.1
  have e1 : zex 0 = 11 := by decide +kernel
  have h2 := h.2.1
  exact ⟨t.1, by omega, t.2⟩
theorem zr_0_2 : zrk 0 2 = 1 := by decide +kernel
theorem zs_0_2 {N : Nat} {σ : Nat → Nat → Bool} {a : Nat} (h : zT N σ a 0) : zFX a 2 = (a + 3) ∧ zAr N (a + 3) 20 1296 := by
  have t := (by decide +kernel : ∀ a, a < zNN → zkd a = 0 → zFX a 2 = a + 3 ∧ zkd (a + 3) = 20 ∧ zln (a + 3) = 1296) a (zkd_lt (by rw [h.1]; decide)) h.1
  have e1 : zex 0 = 11 := by decide +kernel
  have h2 := h.2.1
  exact ⟨t.1, by omega, t.2⟩
theorem zr_0_3 : zrk 0 3 = 1 := by decide +kernel
theorem zs_0_3 {N : Nat} {σ : Nat → Nat → Bool} {a : Nat} (h : zT N σ a 0) : zFX a 3 = (a + 4) ∧ zAr N (a + 4) 20 144 := by
  have t := (by decide +kernel : ∀ a, a < zNN → zkd a = 0 → zFX a 3 = a + 4 ∧ zkd (a + 4) = 20 ∧ zln (a + 4) = 144) a (zkd_lt (by rw [h.1]; decide)) h.1
  have e1 : zex 0 = 11 := by decide +kernel
  have h2 := h.2.1
  exact ⟨t.1, by omega, t.2⟩
theorem zr_0_4 : zrk 0 4 = 1 := by decide +kernel
theorem zs_0_4 {N : Nat} {σ : Nat → Nat → Bool} {a : Nat} (h : zT N σ a 0) : zFX a 4 = (a + 5) ∧ zAr N (a + 5) 20 576 := by
  have t := (by decide +kernel : ∀ a, a < zNN → zkd a = 0 → zFX a 4 = a + 5 ∧ zkd (a + 5) = 20 ∧ zln (a + 5) = 576) a (zkd_lt (by rw [h.1]; decide)) h.1
  have e1 : zex 0 = 11 := by decide +kernel
  have h2 := h.2.1
  exact ⟨t.1, by omega, t.2⟩
theorem zr_0_5 : zrk 0 5 = 1 := by decide +kernel
theorem zs_0_5 {N : Nat} {σ : Nat → Nat → Bool} {a : Nat} (h : zT N σ a 0) : zFX a 5 = (a + 6) ∧ zAr N (a + 6) 21 144 := by
  have t := (by decide +kernel : ∀ a, a < zNN → zkd a = 0 → zFX a 5 = a + 6 ∧ zkd (a + 6) = 21 ∧ zln (a + 6) = 144) a (zkd_lt (by rw [h.1]; decide)) h.1
  have e1 : zex 0 = 11 := by decide +kernel
  have h2 := h.2.1
  exact ⟨t.1, by omega, t.2⟩
theorem zr_0_6 : zrk 0 6 = 1 := by decide +kernel
theorem zs_0_6 {N : Nat} {σ : Nat → Nat → Bool} {a : Nat} (h : zT N σ a 0) : zFX a 6 = (a + 7) ∧ zAr N (a + 7) 21 144 := by
  have t := (by decide +kernel : ∀ a, a < zNN → zkd a = 0 → zFX a 6 = a + 7 ∧ zkd (a + 7) = 21 ∧ zln (a + 7) = 144) a (zkd_lt (by rw [h.1]; decide)) h.1
  have e1 : zex 0 = 11 := by decide +kernel
  have h2 := h.2.1
  exact ⟨t.1, by omega, t.2⟩
theorem zr_0_7 : zrk 0 7 = 1 := by decide +kernel
theorem zs_0_7 {N : Nat} {σ : Nat → Nat → Bool} {a : Nat} (h : zT N σ a 0) : zFX a 7 = (a + 8) ∧ zT N σ (a + 8) 4 := by
  have t := (by decide +kernel : ∀ a, a < zNN → zkd a = 0 → zFX a 7 = a + 8 ∧ zkd (a + 8) = 4) a (zkd_lt (by rw [h.1]; decide)) h.1
  have e1 : zex 0 = 11 := by decide +kernel
  have e2 : zex 4 = 3 := by decide +kernel
  exact ⟨t.1, h.sub (by omega) (by omega) (by omega) t.2⟩
theorem zx_1 : 0 < zex 1 := by decide +kernel
theorem zr_1_0 : zrk 1 0 = 1 := by decide +kernel
theorem zs_1_0 {N : Nat} {σ : Nat → Nat → Bool} {a : Nat} (h : zT N σ a 1) : zFX a 0 = (a + 1) ∧ zAr N (a + 1) 20 11 := by
  have t := (by decide +kernel : ∀ a, a < zNN → zkd a = 1 → zFX a 0 = a + 1 ∧ zkd (a + 1) = 20 ∧ zln (a + 1) = 11) a (zkd_lt (by rw [h.1]; decide)) h.1
  have e1 : zex 1 = 15 := by decide +kernel
  have h2 := h.2.1
  exact ⟨t.1, by omega, t.2⟩
theorem zr_1_1 : zrk 1 1 = 1 := by decide +kernel
theorem zs_1_1 {N : Nat} {σ : Nat → Nat → Bool} {a : Nat} (h : zT N σ a 1) : zFX a 1 = (a + 2) ∧ zT N σ (a + 2) 6 := by
  have t := (by decide +kernel : ∀ a, a < zNN → zkd a = 1 → zFX a 1 = a + 2 ∧ zkd (a + 2) = 6) a (zkd_lt (by rw [h.1]; decide)) h.1
  have e1 : zex 1 = 15 := by decide +kernel
  have e2 : zex 6 = 2 := by decide +kernel
  exact ⟨t.1, h.sub (by omega) (by omega) (by omega) t.2⟩
theorem zr_1_2 : zrk 1 2 = 1 := by decide +kernel
theorem zs_1_2 {N : Nat} {σ : Nat → Nat → Bool} {a : Nat} (h : zT N σ a 1) : zFX a 2 = (a + 4) ∧ zT N σ (a + 4) 6 := by
  have t := (by decide +kernel : ∀ a, a < zNN → zkd a = 1 → zFX a 2 = a + 4 ∧ zkd (a + 4) = 6) a (zkd_lt (by rw [h.1]; decide)) h.1
  have e1 : zex 1 = 15 := by decide +kernel
  have e2 : zex 6 = 2 := by decide +kernel
  exact ⟨t.1, h.sub (by omega) (by omega) (by omega) t.2⟩
theorem zr_1_3 : zrk 1 3 = 1 := by decide +kernel
theorem zs_1_3 {N : Nat} {σ : Nat → Nat → Bool} {a : Nat} (h : zT N σ a 1) : zFX a 3 = (a + 6) ∧ zT N σ (a + 6) 6 := by
  have t := (by decide +kernel : ∀ a, a < zNN → zkd a = 1 → zFX a 3 = a + 6 ∧ zkd (a + 6) = 6) a (zkd_lt (by rw [h.1]; decide)) h.1
  have e1 : zex 1 = 15 := by decide +kernel
  have e2 : zex 6 = 2 := by decide +kernel
  exact ⟨t.1, h.sub (by omega) (by omega) (by omega) t.2⟩
theorem zr_1_4 : zrk 1 4 = 1 := by decide +kernel
theorem zs_1_4 {N : Nat} {σ : Nat → Nat → Bool} {a : Nat} (h : zT N σ a 1) : zFX a 4 = (a + 8) ∧ zT N σ (a + 8) 6 := by
  have t := (by decide +kernel : ∀ a, a < zNN → zkd a = 1 → zFX a 4 = a + 8 ∧ zkd (a + 8) = 6) a (zkd_lt (by rw [h.1]; decide)) h.1
  have e1 : zex 1 = 15 := by decide +kernel
  have e2 : zex 6 = 2 := by decide +kernel
  exact ⟨t.1, h.sub (by omega) (by omega) (by omega) t.2⟩
theorem zr_1_5 : zrk 1 5 = 1 := by decide +kernel
theorem zs_1_5 {N : Nat} {σ : Nat → Nat → Bool} {a : Nat} (h : zT N σ a 1) : zFX a 5 = (a + 10) ∧ zT N σ (a + 10) 6 := by
  have t := (by decide +kernel : ∀ a, a < zNN → zkd a = 1 → zFX a 5 = a + 10 ∧ zkd (a + 10) = 6) a (zkd_lt (by rw [h.1]; decide)) h.1
  have e1 : zex 1 = 15 := by decide +kernel
  have e2 : zex 6 = 2 := by decide +kernel
  exact ⟨t.1, h.sub (by omega) (by omega) (by omega) t.2⟩
theorem zr_1_6 : zrk 1 6 = 0 := by decide +kernel
theorem zp_1_6 : ∀ r : vw_C, zcls[1]? = some r → (r.2.1 6).2.2.2 = false ∧ parseFieldDescriptor (r.2.1 6).2.2.1 = some .int := fun r hr => by
  obtain rfl := Option.some.inj hr
  exact ⟨by decide +kernel, by decide +kernel⟩
theorem zr_1_7 : zrk 1 7 = 0 := by decide +kernel
theorem zp_1_7 : ∀ r : vw_C, zcls[1]? = some r → (r.2.1 7).2.2.2 = false ∧ parseFieldDescriptor (r.2.1 7).2.2.1 = some .int := fun r hr => by
  obtain rfl := Option.some.inj hr
  exact ⟨by decide +kernel, by decide +kernel⟩
theorem zr_1_8 : zrk 1 8 = 0 := by decide +kernel
theorem zp_1_8 : ∀ r : vw_C, zcls[1]? = some r → (r.2.1 8).2.2.2 = false ∧ parseFieldDescriptor (r.2.1 8).2.2.1 = some .int := fun r hr => by
  obtain rfl := Option.some.inj hr
  exact ⟨by decide +kernel, by decide +kernel⟩
theorem zr_1_9 : zrk 1 9 = 1 := by decide +kernel
theorem zs_1_9 {N : Nat} {σ : Nat → Nat → Bool} {a : Nat} (h : zT N σ a 1) : zFX a 9 = (a + 12) ∧ zAr N (a + 12) 20 32 := by
  have t := (by decide +kernel : ∀ a, a < zNN → zkd a = 1 → zFX a 9 = a + 12 ∧ zkd (a + 12) = 20 ∧ zln (a + 12) = 32) a (zkd_lt (by rw [h.1]; decide)) h.1
  have e1 : zex 1 = 15 := by decide +kernel
  have h2 := h.2.1
  exact ⟨t.1, by omega, t.2⟩
theorem zr_1_10 : zrk 1 10 = 1 := by decide +kernel
theorem zs_1_10 {N : Nat} {σ : Nat → Nat → Bool} {a : Nat} (h : zT N σ a 1) : zFX a 10 = (a + 13) ∧ zAr N (a + 13) 20 2 := by
  have t := (by decide +kernel : ∀ a, a < zNN → zkd a = 1 → zFX a 10 = a + 13 ∧ zkd (a + 13) = 20 ∧ zln (a + 13) = 2) a (zkd_lt (by rw [h.1]; decide)) h.1
  have e1 : zex 1 = 15 := by decide +kernel
  have h2 := h.2.1
  exact ⟨t.1, by omega, t.2⟩
theorem zr_1_11 : zrk 1 11 = 1 := by decide +kernel
theorem zs_1_11 {N : Nat} {σ : Nat → Nat → Bool} {a : Nat} (h : zT N σ a 1) : zFX a 11 = (a + 14) ∧ zAr N (a + 14) 20 12 := by
  have t := (by decide +kernel : ∀ a, a < zNN → zkd a = 1 → zFX a 11 = a + 14 ∧ zkd (a + 14) = 20 ∧ zln (a + 14) = 12) a (zkd_lt (by rw [h.1]; decide)) h.1
  have e1 : zex 1 = 15 := by decide +kernel
  have h2 := h.2.1
  exact ⟨t.1, by omega, t.2⟩
theorem zx_2 : 0 < zex 2 := by decide +kernel
theorem zr_2_0 : zrk 2 0 = 0 := by decide +kernel
theorem zp_2_0 : ∀ r : vw_C, zcls[2]? = some r → (r.2.1 0).2.2.2 = false ∧ parseFieldDescriptor (r.2.1 0).2.2.1 = some .int := fun r hr => by
  obtain rfl := Option.some.inj hr
  exact ⟨by decide +kernel, by decide +kernel⟩
theorem zr_2_1 : zrk 2 1 = 0 := by decide +kernel
theorem zp_2_1 : ∀ r : vw_C, zcls[2]? = some r → (r.2.1 1).2.2.2 = false ∧ parseFieldDescriptor (r.2.1 1).2.2.1 = some .int := fun r hr => by
  obtain rfl := Option.some.inj hr
  exact ⟨by decide +kernel, by decide +kernel⟩
theorem zr_2_2 : zrk 2 2 = 1 := by decide +kernel
theorem zs_2_2 {N : Nat} {σ : Nat → Nat → Bool} {a : Nat} (h : zT N σ a 2) : zFX a 2 = (a + 1) ∧ zAr N (a + 1) 20 8 := by
  have t := (by decide +kernel : ∀ a, a < zNN → zkd a = 2 → zFX a 2 = a + 1 ∧ zkd (a + 1) = 20 ∧ zln (a + 1) = 8) a (zkd_lt (by rw [h.1]; decide)) h.1
  have e1 : zex 2 = 13 := by decide +kernel
  have h2 := h.2.1
  exact ⟨t.1, by omega, t.2⟩
theorem zr_2_3 : zrk 2 3 = 1 := by decide +kernel
theorem zs_2_3 {N : Nat} {σ : Nat → Nat → Bool} {a : Nat} (h : zT N σ a 2) : zFX a 3 = (a + 2) ∧ zAr N (a + 2) 20 8 := by
  have t := (by decide +kernel : ∀ a, a < zNN → zkd a = 2 → zFX a 3 = a + 2 ∧ zkd (a + 2) = 20 ∧ zln (a + 2) = 8) a (zkd_lt (by rw [h.1]; decide)) h.1
  have e1 : zex 2 = 13 := by decide +kernel
  have h2 := h.2.1
  exact ⟨t.1, by omega, t.2⟩
theorem zr_2_4 : zrk 2 4 = 1 := by decide +kernel
theorem zs_2_4 {N : Nat} {σ : Nat → Nat → Bool} {a : Nat} (h : zT N σ a 2) : zFX a 4 = (a + 3) ∧ zAr N (a + 3) 25 9 := by
  have t := (by decide +kernel : ∀ a, a < zNN → zkd a = 2 → zFX a 4 = a + 3 ∧ zkd (a + 3) = 25 ∧ zln (a + 3) = 9) a (zkd_lt (by rw [h.1]; decide)) h.1
  have e1 : zex 2 = 13 := by decide +kernel
  have h2 := h.2.1
  exact ⟨t.1, by omega, t.2⟩
theorem ze_2_4 {N : Nat} {σ : Nat → Nat → Bool} {a : Nat} {i : Int32} (h : zT N σ a 2) (hin : zin i 9 = true) : σ (a + 3) i.toNatClampNeg = true ∧ zFX (a + 3) i.toNatClampNeg = (a + 4 + 1 * i.toNatClampNeg) ∧ zAr N (a + 4 + 1 * i.toNatClampNeg) 20 4 := by
  have hj := zin_lt hin
  have e1 : zex 2 = 13 := by decide +kernel
  have h2 := h.2.1
  have t := (by decide +kernel : ∀ a, a < zNN → zkd a = 2 → ∀ j, j < 9 → zFX (a + 3) j = a + 4 + 1 * j ∧ zkd (a + 4 + 1 * j) = 20 ∧ zln (a + 4 + 1 * j) = 4) a (zkd_lt (by rw [h.1]; decide)) h.1 _ hj
  exact ⟨h.2.2.2 _ _ (by omega) (by omega), t.1, by omega, t.2⟩
theorem zx_3 : 0 < zex 3 := by decide +kernel
theorem zr_3_0 : zrk 3 0 = 1 := by decide +kernel
theorem zs_3_0 {N : Nat} {σ : Nat → Nat → Bool} {a : Nat} (h : zT N σ a 3) : zFX a 0 = (a + 1) ∧ zAr N (a + 1) 20 18 := by
  have t := (by decide +kernel : ∀ a, a < zNN → zkd a = 3 → zFX a 0 = a + 1 ∧ zkd (a + 1) = 20 ∧ zln (a + 1) = 18) a (zkd_lt (by rw [h.1]; decide)) h.1
  have e1 : zex 3 = 2 := by decide +kernel
  have h2 := h.2.1
  exact ⟨t.1, by omega, t.2⟩
theorem zx_4 : 0 < zex 4 := by decide +kernel
theorem zr_4_0 : zrk 4 0 = 2 := by decide +kernel
theorem zp_4_0 : ∀ r : vw_C, zcls[4]? = some r → (r.2.1 0).2.2.2 = false ∧ parseFieldDescriptor (r.2.1 0).2.2.1 = some (.object "GraveRegatta$Lake") := fun r hr => by
  obtain rfl := Option.some.inj hr
  exact ⟨by decide +kernel, by decide +kernel⟩
theorem zr_4_1 : zrk 4 1 = 2 := by decide +kernel
theorem zp_4_1 : ∀ r : vw_C, zcls[4]? = some r → (r.2.1 1).2.2.2 = false ∧ parseFieldDescriptor (r.2.1 1).2.2.1 = some (.object "GraveRegatta$Lake") := fun r hr => by
  obtain rfl := Option.some.inj hr
  exact ⟨by decide +kernel, by decide +kernel⟩
theorem zr_4_2 : zrk 4 2 = 0 := by decide +kernel
theorem zp_4_2 : ∀ r : vw_C, zcls[4]? = some r → (r.2.1 2).2.2.2 = false ∧ parseFieldDescriptor (r.2.1 2).2.2.1 = some .int := fun r hr => by
  obtain rfl := Option.some.inj hr
  exact ⟨by decide +kernel, by decide +kernel⟩
theorem zr_4_3 : zrk 4 3 = 0 := by decide +kernel
theorem zp_4_3 : ∀ r : vw_C, zcls[4]? = some r → (r.2.1 3).2.2.2 = false ∧ parseFieldDescriptor (r.2.1 3).2.2.1 = some .int := fun r hr => by
  obtain rfl := Option.some.inj hr
  exact ⟨by decide +kernel, by decide +kernel⟩
theorem zr_4_4 : zrk 4 4 = 0 := by decide +kernel
theorem zp_4_4 : ∀ r : vw_C, zcls[4]? = some r → (r.2.1 4).2.2.2 = false ∧ parseFieldDescriptor (r.2.1 4).2.2.1 = some .int := fun r hr => by
  obtain rfl := Option.some.inj hr
  exact ⟨by decide +kernel, by decide +kernel⟩
theorem zr_4_5 : zrk 4 5 = 0 := by decide +kernel
theorem zp_4_5 : ∀ r : vw_C, zcls[4]? = some r → (r.2.1 5).2.2.2 = false ∧ parseFieldDescriptor (r.2.1 5).2.2.1 = some .int := fun r hr => by
  obtain rfl := Option.some.inj hr
  exact ⟨by decide +kernel, by decide +kernel⟩
theorem zr_4_6 : zrk 4 6 = 0 := by decide +kernel
theorem zp_4_6 : ∀ r : vw_C, zcls[4]? = some r → (r.2.1 6).2.2.2 = false ∧ parseFieldDescriptor (r.2.1 6).2.2.1 = some .int := fun r hr => by
  obtain rfl := Option.some.inj hr
  exact ⟨by decide +kernel, by decide +kernel⟩
theorem zr_4_7 : zrk 4 7 = 0 := by decide +kernel
theorem zp_4_7 : ∀ r : vw_C, zcls[4]? = some r → (r.2.1 7).2.2.2 = false ∧ parseFieldDescriptor (r.2.1 7).2.2.1 = some .boolean := fun r hr => by
  obtain rfl := Option.some.inj hr
  exact ⟨by decide +kernel, by decide +kernel⟩
theorem zr_4_8 : zrk 4 8 = 0 := by decide +kernel
theorem zp_4_8 : ∀ r : vw_C, zcls[4]? = some r → (r.2.1 8).2.2.2 = false ∧ parseFieldDescriptor (r.2.1 8).2.2.1 = some .boolean := fun r hr => by
  obtain rfl := Option.some.inj hr
  exact ⟨by decide +kernel, by decide +kernel⟩
theorem zr_4_9 : zrk 4 9 = 0 := by decide +kernel
theorem zp_4_9 : ∀ r : vw_C, zcls[4]? = some r → (r.2.1 9).2.2.2 = false ∧ parseFieldDescriptor (r.2.1 9).2.2.1 = some .boolean := fun r hr => by
  obtain rfl := Option.some.inj hr
  exact ⟨by decide +kernel, by decide +kernel⟩
theorem zr_4_10 : zrk 4 10 = 0 := by decide +kernel
theorem zp_4_10 : ∀ r : vw_C, zcls[4]? = some r → (r.2.1 10).2.2.2 = false ∧ parseFieldDescriptor (r.2.1 10).2.2.1 = some .int := fun r hr => by
  obtain rfl := Option.some.inj hr
  exact ⟨by decide +kernel, by decide +kernel⟩
theorem zr_4_11 : zrk 4 11 = 0 := by decide +kernel
theorem zp_4_11 : ∀ r : vw_C, zcls[4]? = some r → (r.2.1 11).2.2.2 = false ∧ parseFieldDescriptor (r.2.1 11).2.2.1 = some .int := fun r hr => by
  obtain rfl := Option.some.inj hr
  exact ⟨by decide +kernel, by decide +kernel⟩
theorem zr_4_12 : zrk 4 12 = 1 := by decide +kernel
theorem zs_4_12 {N : Nat} {σ : Nat → Nat → Bool} {a : Nat} (h : zT N σ a 4) : zFX a 12 = (a + 1) ∧ zAr N (a + 1) 20 5 := by
  have t := (by decide +kernel : ∀ a, a < zNN → zkd a = 4 → zFX a 12 = a + 1 ∧ zkd (a + 1) = 20 ∧ zln (a + 1) = 5) a (zkd_lt (by rw [h.1]; decide)) h.1
  have e1 : zex 4 = 3 := by decide +kernel
  have h2 := h.2.1
  exact ⟨t.1, by omega, t.2⟩
theorem zr_4_13 : zrk 4 13 = 1 := by decide +kernel
theorem zs_4_13 {N : Nat} {σ : Nat → Nat → Bool} {a : Nat} (h : zT N σ a 4) : zFX a 13 = (a + 2) ∧ zAr N (a + 2) 20 16 := by
  have t := (by decide +kernel : ∀ a, a < zNN → zkd a = 4 → zFX a 13 = a + 2 ∧ zkd (a + 2) = 20 ∧ zln (a + 2) = 16) a (zkd_lt (by rw [h.1]; decide)) h.1
  have e1 : zex 4 = 3 := by decide +kernel
  have h2 := h.2.1
  exact ⟨t.1, by omega, t.2⟩
theorem zx_5 : 0 < zex 5 := by decide +kernel
theorem zr_5_0 : zrk 5 0 = 1 := by decide +kernel
theorem zs_5_0 {N : Nat} {σ : Nat → Nat → Bool} {a : Nat} (h : zT N σ a 5) : zFX a 0 = (a + 1) ∧ zT N σ (a + 1) 1 := by
  have t := (by decide +kernel : ∀ a, a < zNN → zkd a = 5 → zFX a 0 = a + 1 ∧ zkd (a + 1) = 1) a (zkd_lt (by rw [h.1]; decide)) h.1
  have e1 : zex 5 = 29 := by decide +kernel
  have e2 : zex 1 = 15 := by decide +kernel
  exact ⟨t.1, h.sub (by omega) (by omega) (by omega) t.2⟩
theorem zr_5_1 : zrk 5 1 = 1 := by decide +kernel
theorem zs_5_1 {N : Nat} {σ : Nat → Nat → Bool} {a : Nat} (h : zT N σ a 5) : zFX a 1 = (a + 16) ∧ zAr N (a + 16) 23 5 := by
  have t := (by decide +kernel : ∀ a, a < zNN → zkd a = 5 → zFX a 1 = a + 16 ∧ zkd (a + 16) = 23 ∧ zln (a + 16) = 5) a (zkd_lt (by rw [h.1]; decide)) h.1
  have e1 : zex 5 = 29 := by decide +kernel
  have h2 := h.2.1
  exact ⟨t.1, by omega, t.2⟩
theorem ze_5_1 {N : Nat} {σ : Nat → Nat → Bool} {a : Nat} {i : Int32} (h : zT N σ a 5) (hin : zin i 5 = true) : σ (a + 16) i.toNatClampNeg = true ∧ zFX (a + 16) i.toNatClampNeg = (a + 19 + 2 * i.toNatClampNeg) ∧ zT N σ (a + 19 + 2 * i.toNatClampNeg) 6 := by
  have hj := zin_lt hin
  have e1 : zex 5 = 29 := by decide +kernel
  have h2 := h.2.1
  have t := (by decide +kernel : ∀ a, a < zNN → zkd a = 5 → ∀ j, j < 5 → zFX (a + 16) j = a + 19 + 2 * j ∧ zkd (a + 19 + 2 * j) = 6) a (zkd_lt (by rw [h.1]; decide)) h.1 _ hj
  have e2 : zex 6 = 2 := by decide +kernel
  exact ⟨h.2.2.2 _ _ (by omega) (by omega), t.1, h.sub (by omega) (by omega) (by omega) t.2⟩
theorem zr_5_2 : zrk 5 2 = 0 := by decide +kernel
theorem zp_5_2 : ∀ r : vw_C, zcls[5]? = some r → (r.2.1 2).2.2.2 = false ∧ parseFieldDescriptor (r.2.1 2).2.2.1 = some .int := fun r hr => by
  obtain rfl := Option.some.inj hr
  exact ⟨by decide +kernel, by decide +kernel⟩
theorem zr_5_3 : zrk 5 3 = 0 := by decide +kernel
theorem zp_5_3 : ∀ r : vw_C, zcls[5]? = some r → (r.2.1 3).2.2.2 = false ∧ parseFieldDescriptor (r.2.1 3).2.2.1 = some .int := fun r hr => by
  obtain rfl := Option.some.inj hr
  exact ⟨by decide +kernel, by decide +kernel⟩
theorem zr_5_4 : zrk 5 4 = 2 := by decide +kernel
theorem zp_5_4 : ∀ r : vw_C, zcls[5]? = some r → (r.2.1 4).2.2.2 = false ∧ parseFieldDescriptor (r.2.1 4).2.2.1 = some (.array .int) := fun r hr => by
  obtain rfl := Option.some.inj hr
  exact ⟨by decide +kernel, by decide +kernel⟩
theorem zr_5_5 : zrk 5 5 = 0 := by decide +kernel
theorem zp_5_5 : ∀ r : vw_C, zcls[5]? = some r → (r.2.1 5).2.2.2 = false ∧ parseFieldDescriptor (r.2.1 5).2.2.1 = some .int := fun r hr => by
  obtain rfl := Option.some.inj hr
  exact ⟨by decide +kernel, by decide +kernel⟩
theorem zr_5_6 : zrk 5 6 = 0 := by decide +kernel
theorem zp_5_6 : ∀ r : vw_C, zcls[5]? = some r → (r.2.1 6).2.2.2 = false ∧ parseFieldDescriptor (r.2.1 6).2.2.1 = some .int := fun r hr => by
  obtain rfl := Option.some.inj hr
  exact ⟨by decide +kernel, by decide +kernel⟩
theorem zr_5_7 : zrk 5 7 = 0 := by decide +kernel
theorem zp_5_7 : ∀ r : vw_C, zcls[5]? = some r → (r.2.1 7).2.2.2 = false ∧ parseFieldDescriptor (r.2.1 7).2.2.1 = some .int := fun r hr => by
  obtain rfl := Option.some.inj hr
  exact ⟨by decide +kernel, by decide +kernel⟩
theorem zr_5_8 : zrk 5 8 = 0 := by decide +kernel
theorem zp_5_8 : ∀ r : vw_C, zcls[5]? = some r → (r.2.1 8).2.2.2 = false ∧ parseFieldDescriptor (r.2.1 8).2.2.1 = some .int := fun r hr => by
  obtain rfl := Option.some.inj hr
  exact ⟨by decide +kernel, by decide +kernel⟩
theorem zr_5_9 : zrk 5 9 = 0 := by decide +kernel
theorem zp_5_9 : ∀ r : vw_C, zcls[5]? = some r → (r.2.1 9).2.2.2 = false ∧ parseFieldDescriptor (r.2.1 9).2.2.1 = some .int := fun r hr => by
  obtain rfl := Option.some.inj hr
  exact ⟨by decide +kernel, by decide +kernel⟩
theorem zr_5_10 : zrk 5 10 = 1 := by decide +kernel
theorem zs_5_10 {N : Nat} {σ : Nat → Nat → Bool} {a : Nat} (h : zT N σ a 5) : zFX a 10 = (a + 18) ∧ zAr N (a + 18) 20 3 := by
  have t := (by decide +kernel : ∀ a, a < zNN → zkd a = 5 → zFX a 10 = a + 18 ∧ zkd (a + 18) = 20 ∧ zln (a + 18) = 3) a (zkd_lt (by rw [h.1]; decide)) h.1
  have e1 : zex 5 = 29 := by decide +kernel
  have h2 := h.2.1
  exact ⟨t.1, by omega, t.2⟩
theorem zx_6 : 0 < zex 6 := by decide +kernel
theorem zr_6_0 : zrk 6 0 = 0 := by decide +kernel
theorem zr_6_1 : zrk 6 1 = 1 := by decide +kernel
theorem zs_6_1 {N : Nat} {σ : Nat → Nat → Bool} {a : Nat} (h : zT N σ a 6) : zFX a 1 = (a + 1) ∧ zAr N (a + 1) 20 (zln (a + 1)) := by
  have t := (by decide +kernel : ∀ a, a < zNN → zkd a = 6 → zFX a 1 = a + 1 ∧ zkd (a + 1) = 20 ∧ zln (a + 1) = (zln (a + 1))) a (zkd_lt (by rw [h.1]; decide)) h.1
  have e1 : zex 6 = 2 := by decide +kernel
  have h2 := h.2.1
  exact ⟨t.1, by omega, t.2⟩
theorem zr_6_2 : zrk 6 2 = 0 := by decide +kernel
theorem zp_6_2 : ∀ r : vw_C, zcls[6]? = some r → (r.2.1 2).2.2.2 = false ∧ parseFieldDescriptor (r.2.1 2).2.2.1 = some .int := fun r hr => by
  obtain rfl := Option.some.inj hr
  exact ⟨by decide +kernel, by decide +kernel⟩
theorem zx_7 : 0 < zex 7 := by decide +kernel
theorem zr_7_0 : zrk 7 0 = 1 := by decide +kernel
theorem zs_7_0 {N : Nat} {σ : Nat → Nat → Bool} {a : Nat} (h : zT N σ a 7) : zFX a 0 = (a + 1) ∧ zAr N (a + 1) 25 9 := by
  have t := (by decide +kernel : ∀ a, a < zNN → zkd a = 7 → zFX a 0 = a + 1 ∧ zkd (a + 1) = 25 ∧ zln (a + 1) = 9) a (zkd_lt (by rw [h.1]; decide)) h.1
  have e1 : zex 7 = 21 := by decide +kernel
  have h2 := h.2.1
  exact ⟨t.1, by omega, t.2⟩
theorem ze_7_0 {N : Nat} {σ : Nat → Nat → Bool} {a : Nat} {i : Int32} (h : zT N σ a 7) (hin : zin i 9 = true) : σ (a + 1) i.toNatClampNeg = true ∧ zFX (a + 1) i.toNatClampNeg = (a + 2 + 1 * i.toNatClampNeg) ∧ zAr N (a + 2 + 1 * i.toNatClampNeg) 20 256 := by
  have hj := zin_lt hin
  have e1 : zex 7 = 21 := by decide +kernel
  have h2 := h.2.1
  have t := (by decide +kernel : ∀ a, a < zNN → zkd a = 7 → ∀ j, j < 9 → zFX (a + 1) j = a + 2 + 1 * j ∧ zkd (a + 2 + 1 * j) = 20 ∧ zln (a + 2 + 1 * j) = 256) a (zkd_lt (by rw [h.1]; decide)) h.1 _ hj
  exact ⟨h.2.2.2 _ _ (by omega) (by omega), t.1, by omega, t.2⟩
theorem zr_7_1 : zrk 7 1 = 1 := by decide +kernel
theorem zs_7_1 {N : Nat} {σ : Nat → Nat → Bool} {a : Nat} (h : zT N σ a 7) : zFX a 1 = (a + 11) ∧ zAr N (a + 11) 25 9 := by
  have t := (by decide +kernel : ∀ a, a < zNN → zkd a = 7 → zFX a 1 = a + 11 ∧ zkd (a + 11) = 25 ∧ zln (a + 11) = 9) a (zkd_lt (by rw [h.1]; decide)) h.1
  have e1 : zex 7 = 21 := by decide +kernel
  have h2 := h.2.1
  exact ⟨t.1, by omega, t.2⟩
theorem ze_7_1 {N : Nat} {σ : Nat → Nat → Bool} {a : Nat} {i : Int32} (h : zT N σ a 7) (hin : zin i 9 = true) : σ (a + 11) i.toNatClampNeg = true ∧ zFX (a + 11) i.toNatClampNeg = (a + 12 + 1 * i.toNatClampNeg) ∧ zAr N (a + 12 + 1 * i.toNatClampNeg) 20 256 := by
  have hj := zin_lt hin
  have e1 : zex 7 = 21 := by decide +kernel
  have h2 := h.2.1
  have t := (by decide +kernel : ∀ a, a < zNN → zkd a = 7 → ∀ j, j < 9 → zFX (a + 11) j = a + 12 + 1 * j ∧ zkd (a + 12 + 1 * j) = 20 ∧ zln (a + 12 + 1 * j) = 256) a (zkd_lt (by rw [h.1]; decide)) h.1 _ hj
  exact ⟨h.2.2.2 _ _ (by omega) (by omega), t.1, by omega, t.2⟩
theorem zx_8 : 0 < zex 8 := by decide +kernel
theorem zr_8_0 : zrk 8 0 = 1 := by decide +kernel
theorem zs_8_0 {N : Nat} {σ : Nat → Nat → Bool} {a : Nat} (h : zT N σ a 8) : zFX a 0 = (a + 1) ∧ zAr N (a + 1) 20 600 := by
  have t := (by decide +kernel : ∀ a, a < zNN → zkd a = 8 → zFX a 0 = a + 1 ∧ zkd (a + 1) = 20 ∧ zln (a + 1) = 600) a (zkd_lt (by rw [h.1]; decide)) h.1
  have e1 : zex 8 = 55 := by decide +kernel
  have h2 := h.2.1
  exact ⟨t.1, by omega, t.2⟩
theorem zr_8_1 : zrk 8 1 = 0 := by decide +kernel
theorem zp_8_1 : ∀ r : vw_C, zcls[8]? = some r → (r.2.1 1).2.2.2 = false ∧ parseFieldDescriptor (r.2.1 1).2.2.1 = some .int := fun r hr => by
  obtain rfl := Option.some.inj hr
  exact ⟨by decide +kernel, by decide +kernel⟩
theorem zr_8_2 : zrk 8 2 = 0 := by decide +kernel
theorem zp_8_2 : ∀ r : vw_C, zcls[8]? = some r → (r.2.1 2).2.2.2 = false ∧ parseFieldDescriptor (r.2.1 2).2.2.1 = some .int := fun r hr => by
  obtain rfl := Option.some.inj hr
  exact ⟨by decide +kernel, by decide +kernel⟩
theorem zr_8_3 : zrk 8 3 = 0 := by decide +kernel
theorem zp_8_3 : ∀ r : vw_C, zcls[8]? = some r → (r.2.1 3).2.2.2 = false ∧ parseFieldDescriptor (r.2.1 3).2.2.1 = some .int := fun r hr => by
  obtain rfl := Option.some.inj hr
  exact ⟨by decide +kernel, by decide +kernel⟩
theorem zr_8_4 : zrk 8 4 = 1 := by decide +kernel
theorem zs_8_4 {N : Nat} {σ : Nat → Nat → Bool} {a : Nat} (h : zT N σ a 8) : zFX a 4 = (a + 2) ∧ zAr N (a + 2) 20 5 := by
  have t := (by decide +kernel : ∀ a, a < zNN → zkd a = 8 → zFX a 4 = a + 2 ∧ zkd (a + 2) = 20 ∧ zln (a + 2) = 5) a (zkd_lt (by rw [h.1]; decide)) h.1
  have e1 : zex 8 = 55 := by decide +kernel
  have h2 := h.2.1
  exact ⟨t.1, by omega, t.2⟩
theorem zr_8_5 : zrk 8 5 = 1 := by decide +kernel
theorem zs_8_5 {N : Nat} {σ : Nat → Nat → Bool} {a : Nat} (h : zT N σ a 8) : zFX a 5 = (a + 3) ∧ zAr N (a + 3) 22 2 := by
  have t := (by decide +kernel : ∀ a, a < zNN → zkd a = 8 → zFX a 5 = a + 3 ∧ zkd (a + 3) = 22 ∧ zln (a + 3) = 2) a (zkd_lt (by rw [h.1]; decide)) h.1
  have e1 : zex 8 = 55 := by decide +kernel
  have h2 := h.2.1
  exact ⟨t.1, by omega, t.2⟩
theorem ze_8_5 {N : Nat} {σ : Nat → Nat → Bool} {a : Nat} {i : Int32} (h : zT N σ a 8) (hin : zin i 2 = true) : σ (a + 3) i.toNatClampNeg = true ∧ zFX (a + 3) i.toNatClampNeg = (a + 5 + 15 * i.toNatClampNeg) ∧ zT N σ (a + 5 + 15 * i.toNatClampNeg) 1 := by
  have hj := zin_lt hin
  have e1 : zex 8 = 55 := by decide +kernel
  have h2 := h.2.1
  have t := (by decide +kernel : ∀ a, a < zNN → zkd a = 8 → ∀ j, j < 2 → zFX (a + 3) j = a + 5 + 15 * j ∧ zkd (a + 5 + 15 * j) = 1) a (zkd_lt (by rw [h.1]; decide)) h.1 _ hj
  have e2 : zex 1 = 15 := by decide +kernel
  exact ⟨h.2.2.2 _ _ (by omega) (by omega), t.1, h.sub (by omega) (by omega) (by omega) t.2⟩
theorem zr_8_6 : zrk 8 6 = 1 := by decide +kernel
theorem zs_8_6 {N : Nat} {σ : Nat → Nat → Bool} {a : Nat} (h : zT N σ a 8) : zFX a 6 = (a + 4) ∧ zAr N (a + 4) 23 10 := by
  have t := (by decide +kernel : ∀ a, a < zNN → zkd a = 8 → zFX a 6 = a + 4 ∧ zkd (a + 4) = 23 ∧ zln (a + 4) = 10) a (zkd_lt (by rw [h.1]; decide)) h.1
  have e1 : zex 8 = 55 := by decide +kernel
  have h2 := h.2.1
  exact ⟨t.1, by omega, t.2⟩
theorem ze_8_6 {N : Nat} {σ : Nat → Nat → Bool} {a : Nat} {i : Int32} (h : zT N σ a 8) (hin : zin i 10 = true) : σ (a + 4) i.toNatClampNeg = true ∧ zFX (a + 4) i.toNatClampNeg = (a + 35 + 2 * i.toNatClampNeg) ∧ zT N σ (a + 35 + 2 * i.toNatClampNeg) 6 := by
  have hj := zin_lt hin
  have e1 : zex 8 = 55 := by decide +kernel
  have h2 := h.2.1
  have t := (by decide +kernel : ∀ a, a < zNN → zkd a = 8 → ∀ j, j < 10 → zFX (a + 4) j = a + 35 + 2 * j ∧ zkd (a + 35 + 2 * j) = 6) a (zkd_lt (by rw [h.1]; decide)) h.1 _ hj
  have e2 : zex 6 = 2 := by decide +kernel
  exact ⟨h.2.2.2 _ _ (by omega) (by omega), t.1, h.sub (by omega) (by omega) (by omega) t.2⟩
theorem zx_9 : 0 < zex 9 := by decide +kernel
theorem zr_9_0 : zrk 9 0 = 0 := by decide +kernel
theorem zp_9_0 : ∀ r : vw_C, zcls[9]? = some r → (r.2.1 0).2.2.2 = false ∧ parseFieldDescriptor (r.2.1 0).2.2.1 = some .int := fun r hr => by
  obtain rfl := Option.some.inj hr
  exact ⟨by decide +kernel, by decide +kernel⟩
theorem zr_9_1 : zrk 9 1 = 0 := by decide +kernel
theorem zp_9_1 : ∀ r : vw_C, zcls[9]? = some r → (r.2.1 1).2.2.2 = false ∧ parseFieldDescriptor (r.2.1 1).2.2.1 = some .int := fun r hr => by
  obtain rfl := Option.some.inj hr
  exact ⟨by decide +kernel, by decide +kernel⟩
theorem zr_9_2 : zrk 9 2 = 0 := by decide +kernel
theorem zp_9_2 : ∀ r : vw_C, zcls[9]? = some r → (r.2.1 2).2.2.2 = false ∧ parseFieldDescriptor (r.2.1 2).2.2.1 = some .int := fun r hr => by
  obtain rfl := Option.some.inj hr
  exact ⟨by decide +kernel, by decide +kernel⟩
theorem zr_9_3 : zrk 9 3 = 0 := by decide +kernel
theorem zp_9_3 : ∀ r : vw_C, zcls[9]? = some r → (r.2.1 3).2.2.2 = false ∧ parseFieldDescriptor (r.2.1 3).2.2.1 = some .int := fun r hr => by
  obtain rfl := Option.some.inj hr
  exact ⟨by decide +kernel, by decide +kernel⟩
theorem zr_9_4 : zrk 9 4 = 1 := by decide +kernel
theorem zs_9_4 {N : Nat} {σ : Nat → Nat → Bool} {a : Nat} (h : zT N σ a 9) : zFX a 4 = (a + 1) ∧ zAr N (a + 1) 20 4 := by
  have t := (by decide +kernel : ∀ a, a < zNN → zkd a = 9 → zFX a 4 = a + 1 ∧ zkd (a + 1) = 20 ∧ zln (a + 1) = 4) a (zkd_lt (by rw [h.1]; decide)) h.1
  have e1 : zex 9 = 5 := by decide +kernel
  have h2 := h.2.1
  exact ⟨t.1, by omega, t.2⟩
theorem zr_9_5 : zrk 9 5 = 0 := by decide +kernel
theorem zp_9_5 : ∀ r : vw_C, zcls[9]? = some r → (r.2.1 5).2.2.2 = false ∧ parseFieldDescriptor (r.2.1 5).2.2.1 = some .int := fun r hr => by
  obtain rfl := Option.some.inj hr
  exact ⟨by decide +kernel, by decide +kernel⟩
theorem zr_9_6 : zrk 9 6 = 1 := by decide +kernel
theorem zs_9_6 {N : Nat} {σ : Nat → Nat → Bool} {a : Nat} (h : zT N σ a 9) : zFX a 6 = (a + 2) ∧ zAr N (a + 2) 20 9 := by
  have t := (by decide +kernel : ∀ a, a < zNN → zkd a = 9 → zFX a 6 = a + 2 ∧ zkd (a + 2) = 20 ∧ zln (a + 2) = 9) a (zkd_lt (by rw [h.1]; decide)) h.1
  have e1 : zex 9 = 5 := by decide +kernel
  have h2 := h.2.1
  exact ⟨t.1, by omega, t.2⟩
theorem zr_9_7 : zrk 9 7 = 1 := by decide +kernel
theorem zs_9_7 {N : Nat} {σ : Nat → Nat → Bool} {a : Nat} (h : zT N σ a 9) : zFX a 7 = (a + 3) ∧ zAr N (a + 3) 20 25 := by
  have t := (by decide +kernel : ∀ a, a < zNN → zkd a = 9 → zFX a 7 = a + 3 ∧ zkd (a + 3) = 20 ∧ zln (a + 3) = 25) a (zkd_lt (by rw [h.1]; decide)) h.1
  have e1 : zex 9 = 5 := by decide +kernel
  have h2 := h.2.1
  exact ⟨t.1, by omega, t.2⟩
theorem zr_9_8 : zrk 9 8 = 1 := by decide +kernel
theorem zs_9_8 {N : Nat} {σ : Nat → Nat → Bool} {a : Nat} (h : zT N σ a 9) : zFX a 8 = (a + 4) ∧ zAr N (a + 4) 20 5 := by
  have t := (by decide +kernel : ∀ a, a < zNN → zkd a = 9 → zFX a 8 = a + 4 ∧ zkd (a + 4) = 20 ∧ zln (a + 4) = 5) a (zkd_lt (by rw [h.1]; decide)) h.1
  have e1 : zex 9 = 5 := by decide +kernel
  have h2 := h.2.1
  exact ⟨t.1, by omega, t.2⟩
theorem zx_11 : 0 < zex 11 := by decide +kernel
theorem zr_11_0 : zrk 11 0 = 1 := by decide +kernel
theorem zs_11_0 {N : Nat} {σ : Nat → Nat → Bool} {a : Nat} (h : zT N σ a 11) : zFX a 0 = (a + 1) ∧ zT N σ (a + 1) 8 := by
  have t := (by decide +kernel : ∀ a, a < zNN → zkd a = 11 → zFX a 0 = a + 1 ∧ zkd (a + 1) = 8) a (zkd_lt (by rw [h.1]; decide)) h.1
  have e1 : zex 11 = 310 := by decide +kernel
  have e2 : zex 8 = 55 := by decide +kernel
  exact ⟨t.1, h.sub (by omega) (by omega) (by omega) t.2⟩
theorem zr_11_1 : zrk 11 1 = 1 := by decide +kernel
theorem zs_11_1 {N : Nat} {σ : Nat → Nat → Bool} {a : Nat} (h : zT N σ a 11) : zFX a 1 = (a + 56) ∧ zAr N (a + 56) 24 3 := by
  have t := (by decide +kernel : ∀ a, a < zNN → zkd a = 11 → zFX a 1 = a + 56 ∧ zkd (a + 56) = 24 ∧ zln (a + 56) = 3) a (zkd_lt (by rw [h.1]; decide)) h.1
  have e1 : zex 11 = 310 := by decide +kernel
  have h2 := h.2.1
  exact ⟨t.1, by omega, t.2⟩
theorem ze_11_1 {N : Nat} {σ : Nat → Nat → Bool} {a : Nat} {i : Int32} (h : zT N σ a 11) (hin : zin i 3 = true) : σ (a + 56) i.toNatClampNeg = true ∧ zFX (a + 56) i.toNatClampNeg = (a + 145 + 55 * i.toNatClampNeg) ∧ zT N σ (a + 145 + 55 * i.toNatClampNeg) 8 := by
  have hj := zin_lt hin
  have e1 : zex 11 = 310 := by decide +kernel
  have h2 := h.2.1
  have t := (by decide +kernel : ∀ a, a < zNN → zkd a = 11 → ∀ j, j < 3 → zFX (a + 56) j = a + 145 + 55 * j ∧ zkd (a + 145 + 55 * j) = 8) a (zkd_lt (by rw [h.1]; decide)) h.1 _ hj
  have e2 : zex 8 = 55 := by decide +kernel
  exact ⟨h.2.2.2 _ _ (by omega) (by omega), t.1, h.sub (by omega) (by omega) (by omega) t.2⟩
theorem zr_11_2 : zrk 11 2 = 1 := by decide +kernel
theorem zs_11_2 {N : Nat} {σ : Nat → Nat → Bool} {a : Nat} (h : zT N σ a 11) : zFX a 2 = (a + 57) ∧ zAr N (a + 57) 21 3 := by
  have t := (by decide +kernel : ∀ a, a < zNN → zkd a = 11 → zFX a 2 = a + 57 ∧ zkd (a + 57) = 21 ∧ zln (a + 57) = 3) a (zkd_lt (by rw [h.1]; decide)) h.1
  have e1 : zex 11 = 310 := by decide +kernel
  have h2 := h.2.1
  exact ⟨t.1, by omega, t.2⟩
theorem zr_11_3 : zrk 11 3 = 1 := by decide +kernel
theorem zs_11_3 {N : Nat} {σ : Nat → Nat → Bool} {a : Nat} (h : zT N σ a 11) : zFX a 3 = (a + 58) ∧ zT N σ (a + 58) 5 := by
  have t := (by decide +kernel : ∀ a, a < zNN → zkd a = 11 → zFX a 3 = a + 58 ∧ zkd (a + 58) = 5) a (zkd_lt (by rw [h.1]; decide)) h.1
  have e1 : zex 11 = 310 := by decide +kernel
  have e2 : zex 5 = 29 := by decide +kernel
  exact ⟨t.1, h.sub (by omega) (by omega) (by omega) t.2⟩
theorem zr_11_4 : zrk 11 4 = 1 := by decide +kernel
theorem zs_11_4 {N : Nat} {σ : Nat → Nat → Bool} {a : Nat} (h : zT N σ a 11) : zFX a 4 = (a + 87) ∧ zT N σ (a + 87) 4 := by
  have t := (by decide +kernel : ∀ a, a < zNN → zkd a = 11 → zFX a 4 = a + 87 ∧ zkd (a + 87) = 4) a (zkd_lt (by rw [h.1]; decide)) h.1
  have e1 : zex 11 = 310 := by decide +kernel
  have e2 : zex 4 = 3 := by decide +kernel
  exact ⟨t.1, h.sub (by omega) (by omega) (by omega) t.2⟩
theorem zr_11_5 : zrk 11 5 = 1 := by decide +kernel
theorem zs_11_5 {N : Nat} {σ : Nat → Nat → Bool} {a : Nat} (h : zT N σ a 11) : zFX a 5 = (a + 90) ∧ zT N σ (a + 90) 4 := by
  have t := (by decide +kernel : ∀ a, a < zNN → zkd a = 11 → zFX a 5 = a + 90 ∧ zkd (a + 90) = 4) a (zkd_lt (by rw [h.1]; decide)) h.1
  have e1 : zex 11 = 310 := by decide +kernel
  have e2 : zex 4 = 3 := by decide +kernel
  exact ⟨t.1, h.sub (by omega) (by omega) (by omega) t.2⟩
theorem zr_11_6 : zrk 11 6 = 1 := by decide +kernel
theorem zs_11_6 {N : Nat} {σ : Nat → Nat → Bool} {a : Nat} (h : zT N σ a 11) : zFX a 6 = (a + 93) ∧ zT N σ (a + 93) 0 := by
  have t := (by decide +kernel : ∀ a, a < zNN → zkd a = 11 → zFX a 6 = a + 93 ∧ zkd (a + 93) = 0) a (zkd_lt (by rw [h.1]; decide)) h.1
  have e1 : zex 11 = 310 := by decide +kernel
  have e2 : zex 0 = 11 := by decide +kernel
  exact ⟨t.1, h.sub (by omega) (by omega) (by omega) t.2⟩
theorem zr_11_7 : zrk 11 7 = 1 := by decide +kernel
theorem zs_11_7 {N : Nat} {σ : Nat → Nat → Bool} {a : Nat} (h : zT N σ a 11) : zFX a 7 = (a + 104) ∧ zT N σ (a + 104) 3 := by
  have t := (by decide +kernel : ∀ a, a < zNN → zkd a = 11 → zFX a 7 = a + 104 ∧ zkd (a + 104) = 3) a (zkd_lt (by rw [h.1]; decide)) h.1
  have e1 : zex 11 = 310 := by decide +kernel
  have e2 : zex 3 = 2 := by decide +kernel
  exact ⟨t.1, h.sub (by omega) (by omega) (by omega) t.2⟩
theorem zr_11_8 : zrk 11 8 = 1 := by decide +kernel
theorem zs_11_8 {N : Nat} {σ : Nat → Nat → Bool} {a : Nat} (h : zT N σ a 11) : zFX a 8 = (a + 106) ∧ zT N σ (a + 106) 9 := by
  have t := (by decide +kernel : ∀ a, a < zNN → zkd a = 11 → zFX a 8 = a + 106 ∧ zkd (a + 106) = 9) a (zkd_lt (by rw [h.1]; decide)) h.1
  have e1 : zex 11 = 310 := by decide +kernel
  have e2 : zex 9 = 5 := by decide +kernel
  exact ⟨t.1, h.sub (by omega) (by omega) (by omega) t.2⟩
theorem zr_11_9 : zrk 11 9 = 1 := by decide +kernel
theorem zs_11_9 {N : Nat} {σ : Nat → Nat → Bool} {a : Nat} (h : zT N σ a 11) : zFX a 9 = (a + 111) ∧ zT N σ (a + 111) 7 := by
  have t := (by decide +kernel : ∀ a, a < zNN → zkd a = 11 → zFX a 9 = a + 111 ∧ zkd (a + 111) = 7) a (zkd_lt (by rw [h.1]; decide)) h.1
  have e1 : zex 11 = 310 := by decide +kernel
  have e2 : zex 7 = 21 := by decide +kernel
  exact ⟨t.1, h.sub (by omega) (by omega) (by omega) t.2⟩
theorem zr_11_10 : zrk 11 10 = 1 := by decide +kernel
theorem zs_11_10 {N : Nat} {σ : Nat → Nat → Bool} {a : Nat} (h : zT N σ a 11) : zFX a 10 = (a + 132) ∧ zT N σ (a + 132) 2 := by
  have t := (by decide +kernel : ∀ a, a < zNN → zkd a = 11 → zFX a 10 = a + 132 ∧ zkd (a + 132) = 2) a (zkd_lt (by rw [h.1]; decide)) h.1
  have e1 : zex 11 = 310 := by decide +kernel
  have e2 : zex 2 = 13 := by decide +kernel
  exact ⟨t.1, h.sub (by omega) (by omega) (by omega) t.2⟩
theorem zx_12 : 0 < zex 12 := by decide +kernel
theorem zr_12_0 : zrk 12 0 = 1 := by decide +kernel
theorem zs_12_0 {N : Nat} {σ : Nat → Nat → Bool} {a : Nat} (h : zT N σ a 12) : zFX a 0 = (a + 1) ∧ zAr N (a + 1) 20 4688 := by
  have t := (by decide +kernel : ∀ a, a < zNN → zkd a = 12 → zFX a 0 = a + 1 ∧ zkd (a + 1) = 20 ∧ zln (a + 1) = 4688) a (zkd_lt (by rw [h.1]; decide)) h.1
  have e1 : zex 12 = 14 := by decide +kernel
  have h2 := h.2.1
  exact ⟨t.1, by omega, t.2⟩
theorem zr_12_1 : zrk 12 1 = 1 := by decide +kernel
theorem zs_12_1 {N : Nat} {σ : Nat → Nat → Bool} {a : Nat} (h : zT N σ a 12) : zFX a 1 = (a + 2) ∧ zAr N (a + 2) 21 3 := by
  have t := (by decide +kernel : ∀ a, a < zNN → zkd a = 12 → zFX a 1 = a + 2 ∧ zkd (a + 2) = 21 ∧ zln (a + 2) = 3) a (zkd_lt (by rw [h.1]; decide)) h.1
  have e1 : zex 12 = 14 := by decide +kernel
  have h2 := h.2.1
  exact ⟨t.1, by omega, t.2⟩
theorem zr_12_2 : zrk 12 2 = 0 := by decide +kernel
theorem zp_12_2 : ∀ r : vw_C, zcls[12]? = some r → (r.2.1 2).2.2.2 = false ∧ parseFieldDescriptor (r.2.1 2).2.2.1 = some .int := fun r hr => by
  obtain rfl := Option.some.inj hr
  exact ⟨by decide +kernel, by decide +kernel⟩
theorem zr_12_3 : zrk 12 3 = 0 := by decide +kernel
theorem zp_12_3 : ∀ r : vw_C, zcls[12]? = some r → (r.2.1 3).2.2.2 = false ∧ parseFieldDescriptor (r.2.1 3).2.2.1 = some .int := fun r hr => by
  obtain rfl := Option.some.inj hr
  exact ⟨by decide +kernel, by decide +kernel⟩
theorem zr_12_4 : zrk 12 4 = 0 := by decide +kernel
theorem zp_12_4 : ∀ r : vw_C, zcls[12]? = some r → (r.2.1 4).2.2.2 = false ∧ parseFieldDescriptor (r.2.1 4).2.2.1 = some .int := fun r hr => by
  obtain rfl := Option.some.inj hr
  exact ⟨by decide +kernel, by decide +kernel⟩
theorem zr_12_5 : zrk 12 5 = 0 := by decide +kernel
theorem zp_12_5 : ∀ r : vw_C, zcls[12]? = some r → (r.2.1 5).2.2.2 = false ∧ parseFieldDescriptor (r.2.1 5).2.2.1 = some .int := fun r hr => by
  obtain rfl := Option.some.inj hr
  exact ⟨by decide +kernel, by decide +kernel⟩
theorem zr_12_6 : zrk 12 6 = 0 := by decide +kernel
theorem zp_12_6 : ∀ r : vw_C, zcls[12]? = some r → (r.2.1 6).2.2.2 = false ∧ parseFieldDescriptor (r.2.1 6).2.2.1 = some .int := fun r hr => by
  obtain rfl := Option.some.inj hr
  exact ⟨by decide +kernel, by decide +kernel⟩
theorem zr_12_7 : zrk 12 7 = 0 := by decide +kernel
theorem zp_12_7 : ∀ r : vw_C, zcls[12]? = some r → (r.2.1 7).2.2.2 = false ∧ parseFieldDescriptor (r.2.1 7).2.2.1 = some .int := fun r hr => by
  obtain rfl := Option.some.inj hr
  exact ⟨by decide +kernel, by decide +kernel⟩
theorem zr_12_8 : zrk 12 8 = 0 := by decide +kernel
theorem zp_12_8 : ∀ r : vw_C, zcls[12]? = some r → (r.2.1 8).2.2.2 = false ∧ parseFieldDescriptor (r.2.1 8).2.2.1 = some .boolean := fun r hr => by
  obtain rfl := Option.some.inj hr
  exact ⟨by decide +kernel, by decide +kernel⟩
theorem zr_12_9 : zrk 12 9 = 1 := by decide +kernel
theorem zs_12_9 {N : Nat} {σ : Nat → Nat → Bool} {a : Nat} (h : zT N σ a 12) : zFX a 9 = (a + 3) ∧ zAr N (a + 3) 20 121 := by
  have t := (by decide +kernel : ∀ a, a < zNN → zkd a = 12 → zFX a 9 = a + 3 ∧ zkd (a + 3) = 20 ∧ zln (a + 3) = 121) a (zkd_lt (by rw [h.1]; decide)) h.1
  have e1 : zex 12 = 14 := by decide +kernel
  have h2 := h.2.1
  exact ⟨t.1, by omega, t.2⟩
theorem zr_12_10 : zrk 12 10 = 0 := by decide +kernel
theorem zp_12_10 : ∀ r : vw_C, zcls[12]? = some r → (r.2.1 10).2.2.2 = false ∧ parseFieldDescriptor (r.2.1 10).2.2.1 = some .int := fun r hr => by
  obtain rfl := Option.some.inj hr
  exact ⟨by decide +kernel, by decide +kernel⟩
theorem zr_12_11 : zrk 12 11 = 0 := by decide +kernel
theorem zp_12_11 : ∀ r : vw_C, zcls[12]? = some r → (r.2.1 11).2.2.2 = false ∧ parseFieldDescriptor (r.2.1 11).2.2.1 = some .int := fun r hr => by
  obtain rfl := Option.some.inj hr
  exact ⟨by decide +kernel, by decide +kernel⟩
theorem zr_12_12 : zrk 12 12 = 0 := by decide +kernel
theorem zp_12_12 : ∀ r : vw_C, zcls[12]? = some r → (r.2.1 12).2.2.2 = false ∧ parseFieldDescriptor (r.2.1 12).2.2.1 = some .int := fun r hr => by
  obtain rfl := Option.some.inj hr
  exact ⟨by decide +kernel, by decide +kernel⟩
theorem zr_12_13 : zrk 12 13 = 0 := by decide +kernel
theorem zp_12_13 : ∀ r : vw_C, zcls[12]? = some r → (r.2.1 13).2.2.2 = false ∧ parseFieldDescriptor (r.2.1 13).2.2.1 = some .int := fun r hr => by
  obtain rfl := Option.some.inj hr
  exact ⟨by decide +kernel, by decide +kernel⟩
theorem zr_12_14 : zrk 12 14 = 0 := by decide +kernel
theorem zp_12_14 : ∀ r : vw_C, zcls[12]? = some r → (r.2.1 14).2.2.2 = false ∧ parseFieldDescriptor (r.2.1 14).2.2.1 = some .int := fun r hr => by
  obtain rfl := Option.some.inj hr
  exact ⟨by decide +kernel, by decide +kernel⟩
theorem zr_12_15 : zrk 12 15 = 0 := by decide +kernel
theorem zp_12_15 : ∀ r : vw_C, zcls[12]? = some r → (r.2.1 15).2.2.2 = false ∧ parseFieldDescriptor (r.2.1 15).2.2.1 = some .int := fun r hr => by
  obtain rfl := Option.some.inj hr
  exact ⟨by decide +kernel, by decide +kernel⟩
theorem zr_12_16 : zrk 12 16 = 0 := by decide +kernel
theorem zp_12_16 : ∀ r : vw_C, zcls[12]? = some r → (r.2.1 16).2.2.2 = false ∧ parseFieldDescriptor (r.2.1 16).2.2.1 = some .int := fun r hr => by
  obtain rfl := Option.some.inj hr
  exact ⟨by decide +kernel, by decide +kernel⟩
theorem zr_12_17 : zrk 12 17 = 0 := by decide +kernel
theorem zp_12_17 : ∀ r : vw_C, zcls[12]? = some r → (r.2.1 17).2.2.2 = false ∧ parseFieldDescriptor (r.2.1 17).2.2.1 = some .boolean := fun r hr => by
  obtain rfl := Option.some.inj hr
  exact ⟨by decide +kernel, by decide +kernel⟩
theorem zr_12_18 : zrk 12 18 = 0 := by decide +kernel
theorem zp_12_18 : ∀ r : vw_C, zcls[12]? = some r → (r.2.1 18).2.2.2 = false ∧ parseFieldDescriptor (r.2.1 18).2.2.1 = some .boolean := fun r hr => by
  obtain rfl := Option.some.inj hr
  exact ⟨by decide +kernel, by decide +kernel⟩
theorem zr_12_19 : zrk 12 19 = 0 := by decide +kernel
theorem zp_12_19 : ∀ r : vw_C, zcls[12]? = some r → (r.2.1 19).2.2.2 = false ∧ parseFieldDescriptor (r.2.1 19).2.2.1 = some .boolean := fun r hr => by
  obtain rfl := Option.some.inj hr
  exact ⟨by decide +kernel, by decide +kernel⟩
theorem zr_12_20 : zrk 12 20 = 0 := by decide +kernel
theorem zp_12_20 : ∀ r : vw_C, zcls[12]? = some r → (r.2.1 20).2.2.2 = false ∧ parseFieldDescriptor (r.2.1 20).2.2.1 = some .int := fun r hr => by
  obtain rfl := Option.some.inj hr
  exact ⟨by decide +kernel, by decide +kernel⟩
theorem zr_12_21 : zrk 12 21 = 0 := by decide +kernel
theorem zp_12_21 : ∀ r : vw_C, zcls[12]? = some r → (r.2.1 21).2.2.2 = false ∧ parseFieldDescriptor (r.2.1 21).2.2.1 = some .int := fun r hr => by
  obtain rfl := Option.some.inj hr
  exact ⟨by decide +kernel, by decide +kernel⟩
theorem zr_12_22 : zrk 12 22 = 0 := by decide +kernel
theorem zp_12_22 : ∀ r : vw_C, zcls[12]? = some r → (r.2.1 22).2.2.2 = false ∧ parseFieldDescriptor (r.2.1 22).2.2.1 = some .int := fun r hr => by
  obtain rfl := Option.some.inj hr
  exact ⟨by decide +kernel, by decide +kernel⟩
theorem zr_12_23 : zrk 12 23 = 1 := by decide +kernel
theorem zs_12_23 {N : Nat} {σ : Nat → Nat → Bool} {a : Nat} (h : zT N σ a 12) : zFX a 23 = (a + 4) ∧ zAr N (a + 4) 20 5 := by
  have t := (by decide +kernel : ∀ a, a < zNN → zkd a = 12 → zFX a 23 = a + 4 ∧ zkd (a + 4) = 20 ∧ zln (a + 4) = 5) a (zkd_lt (by rw [h.1]; decide)) h.1
  have e1 : zex 12 = 14 := by decide +kernel
  have h2 := h.2.1
  exact ⟨t.1, by omega, t.2⟩
theorem zr_12_24 : zrk 12 24 = 1 := by decide +kernel
theorem zs_12_24 {N : Nat} {σ : Nat → Nat → Bool} {a : Nat} (h : zT N σ a 12) : zFX a 24 = (a + 5) ∧ zAr N (a + 5) 20 16 := by
  have t := (by decide +kernel : ∀ a, a < zNN → zkd a = 12 → zFX a 24 = a + 5 ∧ zkd (a + 5) = 20 ∧ zln (a + 5) = 16) a (zkd_lt (by rw [h.1]; decide)) h.1
  have e1 : zex 12 = 14 := by decide +kernel
  have h2 := h.2.1
  exact ⟨t.1, by omega, t.2⟩
theorem zr_12_25 : zrk 12 25 = 0 := by decide +kernel
theorem zp_12_25 : ∀ r : vw_C, zcls[12]? = some r → (r.2.1 25).2.2.2 = false ∧ parseFieldDescriptor (r.2.1 25).2.2.1 = some .int := fun r hr => by
  obtain rfl := Option.some.inj hr
  exact ⟨by decide +kernel, by decide +kernel⟩
theorem zr_12_26 : zrk 12 26 = 1 := by decide +kernel
theorem zs_12_26 {N : Nat} {σ : Nat → Nat → Bool} {a : Nat} (h : zT N σ a 12) : zFX a 26 = (a + 6) ∧ zAr N (a + 6) 20 32761 := by
  have t := (by decide +kernel : ∀ a, a < zNN → zkd a = 12 → zFX a 26 = a + 6 ∧ zkd (a + 6) = 20 ∧ zln (a + 6) = 32761) a (zkd_lt (by rw [h.1]; decide)) h.1
  have e1 : zex 12 = 14 := by decide +kernel
  have h2 := h.2.1
  exact ⟨t.1, by omega, t.2⟩
theorem zr_12_27 : zrk 12 27 = 1 := by decide +kernel
theorem zs_12_27 {N : Nat} {σ : Nat → Nat → Bool} {a : Nat} (h : zT N σ a 12) : zFX a 27 = (a + 7) ∧ zAr N (a + 7) 20 32761 := by
  have t := (by decide +kernel : ∀ a, a < zNN → zkd a = 12 → zFX a 27 = a + 7 ∧ zkd (a + 7) = 20 ∧ zln (a + 7) = 32761) a (zkd_lt (by rw [h.1]; decide)) h.1
  have e1 : zex 12 = 14 := by decide +kernel
  have h2 := h.2.1
  exact ⟨t.1, by omega, t.2⟩
theorem zr_12_28 : zrk 12 28 = 1 := by decide +kernel
theorem zs_12_28 {N : Nat} {σ : Nat → Nat → Bool} {a : Nat} (h : zT N σ a 12) : zFX a 28 = (a + 8) ∧ zAr N (a + 8) 20 9 := by
  have t := (by decide +kernel : ∀ a, a < zNN → zkd a = 12 → zFX a 28 = a + 8 ∧ zkd (a + 8) = 20 ∧ zln (a + 8) = 9) a (zkd_lt (by rw [h.1]; decide)) h.1
  have e1 : zex 12 = 14 := by decide +kernel
  have h2 := h.2.1
  exact ⟨t.1, by omega, t.2⟩
theorem zr_12_29 : zrk 12 29 = 1 := by decide +kernel
theorem zs_12_29 {N : Nat} {σ : Nat → Nat → Bool} {a : Nat} (h : zT N σ a 12) : zFX a 29 = (a + 9) ∧ zAr N (a + 9) 21 144 := by
  have t := (by decide +kernel : ∀ a, a < zNN → zkd a = 12 → zFX a 29 = a + 9 ∧ zkd (a + 9) = 21 ∧ zln (a + 9) = 144) a (zkd_lt (by rw [h.1]; decide)) h.1
  have e1 : zex 12 = 14 := by decide +kernel
  have h2 := h.2.1
  exact ⟨t.1, by omega, t.2⟩
theorem zr_12_30 : zrk 12 30 = 1 := by decide +kernel
theorem zs_12_30 {N : Nat} {σ : Nat → Nat → Bool} {a : Nat} (h : zT N σ a 12) : zFX a 30 = (a + 10) ∧ zAr N (a + 10) 21 144 := by
  have t := (by decide +kernel : ∀ a, a < zNN → zkd a = 12 → zFX a 30 = a + 10 ∧ zkd (a + 10) = 21 ∧ zln (a + 10) = 144) a (zkd_lt (by rw [h.1]; decide)) h.1
  have e1 : zex 12 = 14 := by decide +kernel
  have h2 := h.2.1
  exact ⟨t.1, by omega, t.2⟩
theorem zr_12_31 : zrk 12 31 = 1 := by decide +kernel
theorem zs_12_31 {N : Nat} {σ : Nat → Nat → Bool} {a : Nat} (h : zT N σ a 12) : zFX a 31 = (a + 11) ∧ zAr N (a + 11) 20 576 := by
  have t := (by decide +kernel : ∀ a, a < zNN → zkd a = 12 → zFX a 31 = a + 11 ∧ zkd (a + 11) = 20 ∧ zln (a + 11) = 576) a (zkd_lt (by rw [h.1]; decide)) h.1
  have e1 : zex 12 = 14 := by decide +kernel
  have h2 := h.2.1
  exact ⟨t.1, by omega, t.2⟩
theorem zr_12_32 : zrk 12 32 = 0 := by decide +kernel
theorem zp_12_32 : ∀ r : vw_C, zcls[12]? = some r → (r.2.1 32).2.2.2 = false ∧ parseFieldDescriptor (r.2.1 32).2.2.1 = some .int := fun r hr => by
  obtain rfl := Option.some.inj hr
  exact ⟨by decide +kernel, by decide +kernel⟩
theorem zr_12_33 : zrk 12 33 = 0 := by decide +kernel
theorem zp_12_33 : ∀ r : vw_C, zcls[12]? = some r → (r.2.1 33).2.2.2 = false ∧ parseFieldDescriptor (r.2.1 33).2.2.1 = some .int := fun r hr => by
  obtain rfl := Option.some.inj hr
  exact ⟨by decide +kernel, by decide +kernel⟩
theorem zr_12_34 : zrk 12 34 = 1 := by decide +kernel
theorem zs_12_34 {N : Nat} {σ : Nat → Nat → Bool} {a : Nat} (h : zT N σ a 12) : zFX a 34 = (a + 12) ∧ zAr N (a + 12) 20 5 := by
  have t := (by decide +kernel : ∀ a, a < zNN → zkd a = 12 → zFX a 34 = a + 12 ∧ zkd (a + 12) = 20 ∧ zln (a + 12) = 5) a (zkd_lt (by rw [h.1]; decide)) h.1
  have e1 : zex 12 = 14 := by decide +kernel
  have h2 := h.2.1
  exact ⟨t.1, by omega, t.2⟩
theorem zr_12_35 : zrk 12 35 = 0 := by decide +kernel
theorem zp_12_35 : ∀ r : vw_C, zcls[12]? = some r → (r.2.1 35).2.2.2 = false ∧ parseFieldDescriptor (r.2.1 35).2.2.1 = some .int := fun r hr => by
  obtain rfl := Option.some.inj hr
  exact ⟨by decide +kernel, by decide +kernel⟩
theorem zr_12_36 : zrk 12 36 = 1 := by decide +kernel
theorem zs_12_36 {N : Nat} {σ : Nat → Nat → Bool} {a : Nat} (h : zT N σ a 12) : zFX a 36 = (a + 13) ∧ zAr N (a + 13) 20 65536 := by
  have t := (by decide +kernel : ∀ a, a < zNN → zkd a = 12 → zFX a 36 = a + 13 ∧ zkd (a + 13) = 20 ∧ zln (a + 13) = 65536) a (zkd_lt (by rw [h.1]; decide)) h.1
  have e1 : zex 12 = 14 := by decide +kernel
  have h2 := h.2.1
  exact ⟨t.1, by omega, t.2⟩
theorem zr_12_37 : zrk 12 37 = 0 := by decide +kernel
theorem zp_12_37 : ∀ r : vw_C, zcls[12]? = some r → (r.2.1 37).2.2.2 = false ∧ parseFieldDescriptor (r.2.1 37).2.2.1 = some .int := fun r hr => by
  obtain rfl := Option.some.inj hr
  exact ⟨by decide +kernel, by decide +kernel⟩
