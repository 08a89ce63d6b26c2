/-! THE CONSTRUCTORS (by program: tools/mkmake.py) -/
theorem kO_i : Cond.instanceMethod Lib.objectInit ∈ ztbl := zmk1 28 (by decide +kernel) rfl
theorem kO_c : Cond.code Lib.objectInit object_method_1_code 1 none ∈ ztbl := zmk1 29 (by decide +kernel) rfl
theorem kO_b : object_method_1_code = (⟨#[0xb1]⟩ : ByteArray) := by decide +kernel
theorem kO_RX11_1 : Cond.methodLink RX11 1 Lib.objectInit ∈ ztbl := zmk1 27 (by decide +kernel) rfl
theorem kO_RX0_3 : Cond.methodLink RX0 3 Lib.objectInit ∈ ztbl := zmk2 51 (by decide +kernel) rfl
theorem kO_RX1_3 : Cond.methodLink RX1 3 Lib.objectInit ∈ ztbl := zmk1 44 (by decide +kernel) rfl
theorem kO_RX2_3 : Cond.methodLink RX2 3 Lib.objectInit ∈ ztbl := zmk2 147 (by decide +kernel) rfl
theorem kO_RX3_3 : Cond.methodLink RX3 3 Lib.objectInit ∈ ztbl := zmk2 84 (by decide +kernel) rfl
theorem kO_RX4_3 : Cond.methodLink RX4 3 Lib.objectInit ∈ ztbl := zmk1 231 (by decide +kernel) rfl
theorem kO_RX5_3 : Cond.methodLink RX5 3 Lib.objectInit ∈ ztbl := zmk1 181 (by decide +kernel) rfl
theorem kO_RX6_3 : Cond.methodLink RX6 3 Lib.objectInit ∈ ztbl := zmk1 50 (by decide +kernel) rfl
theorem kO_RX7_3 : Cond.methodLink RX7 3 Lib.objectInit ∈ ztbl := zmk2 132 (by decide +kernel) rfl
theorem kO_RX8_3 : Cond.methodLink RX8 3 Lib.objectInit ∈ ztbl := zmk1 35 (by decide +kernel) rfl
theorem kO_RX9_3 : Cond.methodLink RX9 3 Lib.objectInit ∈ ztbl := zmk2 94 (by decide +kernel) rfl
theorem kO_RX12_1 : Cond.methodLink RX12 1 Lib.objectInit ∈ ztbl := zmk6 12 (by decide +kernel) rfl
theorem kcl_RX11_7 : Cond.classLink RX11 7 "GraveRegatta$Told" ∈ ztbl := zmk1 30 (by decide +kernel) rfl
theorem kcl_RX11_24 : Cond.classLink RX11 24 "GraveRegatta$Reader" ∈ ztbl := zmk1 176 (by decide +kernel) rfl
theorem kcl_RX11_31 : Cond.classLink RX11 31 "GraveRegatta$Raft" ∈ ztbl := zmk1 226 (by decide +kernel) rfl
theorem kcl_RX11_47 : Cond.classLink RX11 47 "GraveRegatta$Course" ∈ ztbl := zmk2 46 (by decide +kernel) rfl
theorem kcl_RX11_54 : Cond.classLink RX11 54 "GraveRegatta$Quarrel" ∈ ztbl := zmk2 79 (by decide +kernel) rfl
theorem kcl_RX11_61 : Cond.classLink RX11 61 "GraveRegatta$Watch" ∈ ztbl := zmk2 89 (by decide +kernel) rfl
theorem kcl_RX11_68 : Cond.classLink RX11 68 "GraveRegatta$Search" ∈ ztbl := zmk2 127 (by decide +kernel) rfl
theorem kcl_RX11_75 : Cond.classLink RX11 75 "GraveRegatta$Pump" ∈ ztbl := zmk2 142 (by decide +kernel) rfl
theorem kcl_RX0_34 : Cond.classLink RX0 34 "GraveRegatta$Raft" ∈ ztbl := zmk2 52 (by decide +kernel) rfl
theorem kcl_RX1_15 : Cond.classLink RX1 15 "GraveRegatta$Rows" ∈ ztbl := zmk1 45 (by decide +kernel) rfl
theorem kcl_RX2_18 : Cond.classLink RX2 18 "[[I" ∈ ztbl := zmk2 148 (by decide +kernel) rfl
theorem kcl_RX5_9 : Cond.classLink RX5 9 "GraveRegatta$Lake" ∈ ztbl := zmk1 182 (by decide +kernel) rfl
theorem kcl_RX5_18 : Cond.classLink RX5 18 "GraveRegatta$Rows" ∈ ztbl := zmk1 184 (by decide +kernel) rfl
theorem kcl_RX7_11 : Cond.classLink RX7 11 "[[I" ∈ ztbl := zmk2 133 (by decide +kernel) rfl
theorem kcl_RX8_22 : Cond.classLink RX8 22 "GraveRegatta$Lake" ∈ ztbl := zmk1 36 (by decide +kernel) rfl
theorem kcl_RX8_28 : Cond.classLink RX8 28 "GraveRegatta$Rows" ∈ ztbl := zmk1 38 (by decide +kernel) rfl
theorem kcl_RL_7 : Cond.classLink RL 7 "GraveRegatta" ∈ ztbl := zmk1 22 (by decide +kernel) rfl
theorem kcl_RL_10 : Cond.classLink RL 10 "GraveRegattaModel" ∈ ztbl := zmk6 7 (by decide +kernel) rfl
theorem kii_RX11 : Cond.initialized RX11 ∈ ztbl := zmk1 1 (by decide +kernel) rfl
theorem kii_RX8 : Cond.initialized RX8 ∈ ztbl := zmk1 2 (by decide +kernel) rfl
theorem kii_RX1 : Cond.initialized RX1 ∈ ztbl := zmk1 3 (by decide +kernel) rfl
theorem kii_RX6 : Cond.initialized RX6 ∈ ztbl := zmk1 4 (by decide +kernel) rfl
theorem kii_RX5 : Cond.initialized RX5 ∈ ztbl := zmk1 7 (by decide +kernel) rfl
theorem kii_RX4 : Cond.initialized RX4 ∈ ztbl := zmk1 8 (by decide +kernel) rfl
theorem kii_RX0 : Cond.initialized RX0 ∈ ztbl := zmk1 9 (by decide +kernel) rfl
theorem kii_RX3 : Cond.initialized RX3 ∈ ztbl := zmk1 10 (by decide +kernel) rfl
theorem kii_RX9 : Cond.initialized RX9 ∈ ztbl := zmk1 11 (by decide +kernel) rfl
theorem kii_RX7 : Cond.initialized RX7 ∈ ztbl := zmk1 12 (by decide +kernel) rfl
theorem kii_RX2 : Cond.initialized RX2 ∈ ztbl := zmk1 13 (by decide +kernel) rfl
theorem kii_RX12 : Cond.initialized RX12 ∈ ztbl := zmk1 14 (by decide +kernel) rfl
theorem kii_RX10 : Cond.initialized RX10 ∈ ztbl := zmk1 20 (by decide +kernel) rfl
theorem kin_RX11 : Cond.instantiable RX11 11 ∈ ztbl := zmk1 23 (by decide +kernel) rfl
theorem kin_RX8 : Cond.instantiable RX8 7 ∈ ztbl := zmk1 31 (by decide +kernel) rfl
theorem kin_RX1 : Cond.instantiable RX1 12 ∈ ztbl := zmk1 40 (by decide +kernel) rfl
theorem kin_RX6 : Cond.instantiable RX6 3 ∈ ztbl := zmk1 46 (by decide +kernel) rfl
theorem kar_int : Cond.arrayClass .int ∈ ztbl := zmk1 73 (by decide +kernel) rfl
theorem kin_RX5 : Cond.instantiable RX5 11 ∈ ztbl := zmk1 177 (by decide +kernel) rfl
theorem kar_boolean : Cond.arrayClass .boolean ∈ ztbl := zmk1 225 (by decide +kernel) rfl
theorem kin_RX4 : Cond.instantiable RX4 14 ∈ ztbl := zmk1 227 (by decide +kernel) rfl
theorem kin_RX0 : Cond.instantiable RX0 8 ∈ ztbl := zmk2 47 (by decide +kernel) rfl
theorem kin_RX3 : Cond.instantiable RX3 1 ∈ ztbl := zmk2 80 (by decide +kernel) rfl
theorem kin_RX9 : Cond.instantiable RX9 9 ∈ ztbl := zmk2 90 (by decide +kernel) rfl
theorem kin_RX7 : Cond.instantiable RX7 2 ∈ ztbl := zmk2 128 (by decide +kernel) rfl
theorem kin_RX2 : Cond.instantiable RX2 5 ∈ ztbl := zmk2 143 (by decide +kernel) rfl
theorem kin_RX12 : Cond.instantiable RX12 38 ∈ ztbl := zmk6 8 (by decide +kernel) rfl
theorem zpf_0_0 : ∀ r : vw_C, zcls[0]? = some r → (r.2.1 0).2.2.2 = true ∧ parseFieldDescriptor (r.2.1 0).2.2.1 = some (.array .int) ∧ (r.2.1 0).1 = RX0 := fun r hr => by
  cases hr
  exact ⟨rfl, by decide +kernel, rfl⟩
theorem zpf_0_1 : ∀ r : vw_C, zcls[0]? = some r → (r.2.1 1).2.2.2 = true ∧ parseFieldDescriptor (r.2.1 1).2.2.1 = some (.array .int) ∧ (r.2.1 1).1 = RX0 := fun r hr => by
  cases hr
  exact ⟨rfl, by decide +kernel, rfl⟩
theorem zpf_0_2 : ∀ r : vw_C, zcls[0]? = some r → (r.2.1 2).2.2.2 = true ∧ parseFieldDescriptor (r.2.1 2).2.2.1 = some (.array .int) ∧ (r.2.1 2).1 = RX0 := fun r hr => by
  cases hr
  exact ⟨rfl, by decide +kernel, rfl⟩
theorem zpf_0_3 : ∀ r : vw_C, zcls[0]? = some r → (r.2.1 3).2.2.2 = true ∧ parseFieldDescriptor (r.2.1 3).2.2.1 = some (.array .int) ∧ (r.2.1 3).1 = RX0 := fun r hr => by
  cases hr
  exact ⟨rfl, by decide +kernel, rfl⟩
theorem zpf_0_4 : ∀ r : vw_C, zcls[0]? = some r → (r.2.1 4).2.2.2 = true ∧ parseFieldDescriptor (r.2.1 4).2.2.1 = some (.array .int) ∧ (r.2.1 4).1 = RX0 := fun r hr => by
  cases hr
  exact ⟨rfl, by decide +kernel, rfl⟩
theorem zpf_0_5 : ∀ r : vw_C, zcls[0]? = some r → (r.2.1 5).2.2.2 = true ∧ parseFieldDescriptor (r.2.1 5).2.2.1 = some (.array .boolean) ∧ (r.2.1 5).1 = RX0 := fun r hr => by
  cases hr
  exact ⟨rfl, by decide +kernel, rfl⟩
theorem zpf_0_6 : ∀ r : vw_C, zcls[0]? = some r → (r.2.1 6).2.2.2 = true ∧ parseFieldDescriptor (r.2.1 6).2.2.1 = some (.array .boolean) ∧ (r.2.1 6).1 = RX0 := fun r hr => by
  cases hr
  exact ⟨rfl, by decide +kernel, rfl⟩
theorem zpf_0_7 : ∀ r : vw_C, zcls[0]? = some r → (r.2.1 7).2.2.2 = true ∧ parseFieldDescriptor (r.2.1 7).2.2.1 = some (.object "GraveRegatta$Raft") ∧ (r.2.1 7).1 = RX0 := fun r hr => by
  cases hr
  exact ⟨rfl, by decide +kernel, rfl⟩
theorem zpf_1_0 : ∀ r : vw_C, zcls[1]? = some r → (r.2.1 0).2.2.2 = true ∧ parseFieldDescriptor (r.2.1 0).2.2.1 = some (.array .int) ∧ (r.2.1 0).1 = RX1 := fun r hr => by
  cases hr
  exact ⟨rfl, by decide +kernel, rfl⟩
theorem zpf_1_1 : ∀ r : vw_C, zcls[1]? = some r → (r.2.1 1).2.2.2 = true ∧ parseFieldDescriptor (r.2.1 1).2.2.1 = some (.object "GraveRegatta$Rows") ∧ (r.2.1 1).1 = RX1 := fun r hr => by
  cases hr
  exact ⟨rfl, by decide +kernel, rfl⟩
theorem zpf_1_2 : ∀ r : vw_C, zcls[1]? = some r → (r.2.1 2).2.2.2 = true ∧ parseFieldDescriptor (r.2.1 2).2.2.1 = some (.object "GraveRegatta$Rows") ∧ (r.2.1 2).1 = RX1 := fun r hr => by
  cases hr
  exact ⟨rfl, by decide +kernel, rfl⟩
theorem zpf_1_3 : ∀ r : vw_C, zcls[1]? = some r → (r.2.1 3).2.2.2 = true ∧ parseFieldDescriptor (r.2.1 3).2.2.1 = some (.object "GraveRegatta$Rows") ∧ (r.2.1 3).1 = RX1 := fun r hr => by
  cases hr
  exact ⟨rfl, by decide +kernel, rfl⟩
theorem zpf_1_4 : ∀ r : vw_C, zcls[1]? = some r → (r.2.1 4).2.2.2 = true ∧ parseFieldDescriptor (r.2.1 4).2.2.1 = some (.object "GraveRegatta$Rows") ∧ (r.2.1 4).1 = RX1 := fun r hr => by
  cases hr
  exact ⟨rfl, by decide +kernel, rfl⟩
theorem zpf_1_5 : ∀ r : vw_C, zcls[1]? = some r → (r.2.1 5).2.2.2 = true ∧ parseFieldDescriptor (r.2.1 5).2.2.1 = some (.object "GraveRegatta$Rows") ∧ (r.2.1 5).1 = RX1 := fun r hr => by
  cases hr
  exact ⟨rfl, by decide +kernel, rfl⟩
theorem zpf_1_9 : ∀ r : vw_C, zcls[1]? = some r → (r.2.1 9).2.2.2 = true ∧ parseFieldDescriptor (r.2.1 9).2.2.1 = some (.array .int) ∧ (r.2.1 9).1 = RX1 := fun r hr => by
  cases hr
  exact ⟨rfl, by decide +kernel, rfl⟩
theorem zpf_1_10 : ∀ r : vw_C, zcls[1]? = some r → (r.2.1 10).2.2.2 = true ∧ parseFieldDescriptor (r.2.1 10).2.2.1 = some (.array .int) ∧ (r.2.1 10).1 = RX1 := fun r hr => by
  cases hr
  exact ⟨rfl, by decide +kernel, rfl⟩
theorem zpf_1_11 : ∀ r : vw_C, zcls[1]? = some r → (r.2.1 11).2.2.2 = true ∧ parseFieldDescriptor (r.2.1 11).2.2.1 = some (.array .int) ∧ (r.2.1 11).1 = RX1 := fun r hr => by
  cases hr
  exact ⟨rfl, by decide +kernel, rfl⟩
theorem zpf_2_2 : ∀ r : vw_C, zcls[2]? = some r → (r.2.1 2).2.2.2 = true ∧ parseFieldDescriptor (r.2.1 2).2.2.1 = some (.array .int) ∧ (r.2.1 2).1 = RX2 := fun r hr => by
  cases hr
  exact ⟨rfl, by decide +kernel, rfl⟩
theorem zpf_2_3 : ∀ r : vw_C, zcls[2]? = some r → (r.2.1 3).2.2.2 = true ∧ parseFieldDescriptor (r.2.1 3).2.2.1 = some (.array .int) ∧ (r.2.1 3).1 = RX2 := fun r hr => by
  cases hr
  exact ⟨rfl, by decide +kernel, rfl⟩
theorem zpf_2_4 : ∀ r : vw_C, zcls[2]? = some r → (r.2.1 4).2.2.2 = true ∧ parseFieldDescriptor (r.2.1 4).2.2.1 = some (.array (.array .int)) ∧ (r.2.1 4).1 = RX2 := fun r hr => by
  cases hr
  exact ⟨rfl, by decide +kernel, rfl⟩
theorem zpf_3_0 : ∀ r : vw_C, zcls[3]? = some r → (r.2.1 0).2.2.2 = true ∧ parseFieldDescriptor (r.2.1 0).2.2.1 = some (.array .int) ∧ (r.2.1 0).1 = RX3 := fun r hr => by
  cases hr
  exact ⟨rfl, by decide +kernel, rfl⟩
theorem zpf_4_12 : ∀ r : vw_C, zcls[4]? = some r → (r.2.1 12).2.2.2 = true ∧ parseFieldDescriptor (r.2.1 12).2.2.1 = some (.array .int) ∧ (r.2.1 12).1 = RX4 := fun r hr => by
  cases hr
  exact ⟨rfl, by decide +kernel, rfl⟩
theorem zpf_4_13 : ∀ r : vw_C, zcls[4]? = some r → (r.2.1 13).2.2.2 = true ∧ parseFieldDescriptor (r.2.1 13).2.2.1 = some (.array .int) ∧ (r.2.1 13).1 = RX4 := fun r hr => by
  cases hr
  exact ⟨rfl, by decide +kernel, rfl⟩
theorem zpf_5_0 : ∀ r : vw_C, zcls[5]? = some r → (r.2.1 0).2.2.2 = true ∧ parseFieldDescriptor (r.2.1 0).2.2.1 = some (.object "GraveRegatta$Lake") ∧ (r.2.1 0).1 = RX5 := fun r hr => by
  cases hr
  exact ⟨rfl, by decide +kernel, rfl⟩
theorem zpf_5_1 : ∀ r : vw_C, zcls[5]? = some r → (r.2.1 1).2.2.2 = true ∧ parseFieldDescriptor (r.2.1 1).2.2.1 = some (.array (.object "GraveRegatta$Rows")) ∧ (r.2.1 1).1 = RX5 := fun r hr => by
  cases hr
  exact ⟨rfl, by decide +kernel, rfl⟩
theorem zpf_5_10 : ∀ r : vw_C, zcls[5]? = some r → (r.2.1 10).2.2.2 = true ∧ parseFieldDescriptor (r.2.1 10).2.2.1 = some (.array .int) ∧ (r.2.1 10).1 = RX5 := fun r hr => by
  cases hr
  exact ⟨rfl, by decide +kernel, rfl⟩
theorem zpf_6_0 : ∀ r : vw_C, zcls[6]? = some r → (r.2.1 0).2.2.2 = true ∧ parseFieldDescriptor (r.2.1 0).2.2.1 = some .int ∧ (r.2.1 0).1 = RX6 := fun r hr => by
  cases hr
  exact ⟨rfl, by decide +kernel, rfl⟩
theorem zpf_6_1 : ∀ r : vw_C, zcls[6]? = some r → (r.2.1 1).2.2.2 = true ∧ parseFieldDescriptor (r.2.1 1).2.2.1 = some (.array .int) ∧ (r.2.1 1).1 = RX6 := fun r hr => by
  cases hr
  exact ⟨rfl, by decide +kernel, rfl⟩
theorem zpf_7_0 : ∀ r : vw_C, zcls[7]? = some r → (r.2.1 0).2.2.2 = true ∧ parseFieldDescriptor (r.2.1 0).2.2.1 = some (.array (.array .int)) ∧ (r.2.1 0).1 = RX7 := fun r hr => by
  cases hr
  exact ⟨rfl, by decide +kernel, rfl⟩
theorem zpf_7_1 : ∀ r : vw_C, zcls[7]? = some r → (r.2.1 1).2.2.2 = true ∧ parseFieldDescriptor (r.2.1 1).2.2.1 = some (.array (.array .int)) ∧ (r.2.1 1).1 = RX7 := fun r hr => by
  cases hr
  exact ⟨rfl, by decide +kernel, rfl⟩
theorem zpf_8_0 : ∀ r : vw_C, zcls[8]? = some r → (r.2.1 0).2.2.2 = true ∧ parseFieldDescriptor (r.2.1 0).2.2.1 = some (.array .int) ∧ (r.2.1 0).1 = RX8 := fun r hr => by
  cases hr
  exact ⟨rfl, by decide +kernel, rfl⟩
theorem zpf_8_4 : ∀ r : vw_C, zcls[8]? = some r → (r.2.1 4).2.2.2 = true ∧ parseFieldDescriptor (r.2.1 4).2.2.1 = some (.array .int) ∧ (r.2.1 4).1 = RX8 := fun r hr => by
  cases hr
  exact ⟨rfl, by decide +kernel, rfl⟩
theorem zpf_8_5 : ∀ r : vw_C, zcls[8]? = some r → (r.2.1 5).2.2.2 = true ∧ parseFieldDescriptor (r.2.1 5).2.2.1 = some (.array (.object "GraveRegatta$Lake")) ∧ (r.2.1 5).1 = RX8 := fun r hr => by
  cases hr
  exact ⟨rfl, by decide +kernel, rfl⟩
theorem zpf_8_6 : ∀ r : vw_C, zcls[8]? = some r → (r.2.1 6).2.2.2 = true ∧ parseFieldDescriptor (r.2.1 6).2.2.1 = some (.array (.object "GraveRegatta$Rows")) ∧ (r.2.1 6).1 = RX8 := fun r hr => by
  cases hr
  exact ⟨rfl, by decide +kernel, rfl⟩
theorem zpf_9_4 : ∀ r : vw_C, zcls[9]? = some r → (r.2.1 4).2.2.2 = true ∧ parseFieldDescriptor (r.2.1 4).2.2.1 = some (.array .int) ∧ (r.2.1 4).1 = RX9 := fun r hr => by
  cases hr
  exact ⟨rfl, by decide +kernel, rfl⟩
theorem zpf_9_6 : ∀ r : vw_C, zcls[9]? = some r → (r.2.1 6).2.2.2 = true ∧ parseFieldDescriptor (r.2.1 6).2.2.1 = some (.array .int) ∧ (r.2.1 6).1 = RX9 := fun r hr => by
  cases hr
  exact ⟨rfl, by decide +kernel, rfl⟩
theorem zpf_9_7 : ∀ r : vw_C, zcls[9]? = some r → (r.2.1 7).2.2.2 = true ∧ parseFieldDescriptor (r.2.1 7).2.2.1 = some (.array .int) ∧ (r.2.1 7).1 = RX9 := fun r hr => by
  cases hr
  exact ⟨rfl, by decide +kernel, rfl⟩
theorem zpf_9_8 : ∀ r : vw_C, zcls[9]? = some r → (r.2.1 8).2.2.2 = true ∧ parseFieldDescriptor (r.2.1 8).2.2.1 = some (.array .int) ∧ (r.2.1 8).1 = RX9 := fun r hr => by
  cases hr
  exact ⟨rfl, by decide +kernel, rfl⟩
theorem zpf_11_0 : ∀ r : vw_C, zcls[11]? = some r → (r.2.1 0).2.2.2 = true ∧ parseFieldDescriptor (r.2.1 0).2.2.1 = some (.object "GraveRegatta$Told") ∧ (r.2.1 0).1 = RX11 := fun r hr => by
  cases hr
  exact ⟨rfl, by decide +kernel, rfl⟩
theorem zpf_11_1 : ∀ r : vw_C, zcls[11]? = some r → (r.2.1 1).2.2.2 = true ∧ parseFieldDescriptor (r.2.1 1).2.2.1 = some (.array (.object "GraveRegatta$Told")) ∧ (r.2.1 1).1 = RX11 := fun r hr => by
  cases hr
  exact ⟨rfl, by decide +kernel, rfl⟩
theorem zpf_11_2 : ∀ r : vw_C, zcls[11]? = some r → (r.2.1 2).2.2.2 = true ∧ parseFieldDescriptor (r.2.1 2).2.2.1 = some (.array .boolean) ∧ (r.2.1 2).1 = RX11 := fun r hr => by
  cases hr
  exact ⟨rfl, by decide +kernel, rfl⟩
theorem zpf_11_3 : ∀ r : vw_C, zcls[11]? = some r → (r.2.1 3).2.2.2 = true ∧ parseFieldDescriptor (r.2.1 3).2.2.1 = some (.object "GraveRegatta$Reader") ∧ (r.2.1 3).1 = RX11 := fun r hr => by
  cases hr
  exact ⟨rfl, by decide +kernel, rfl⟩
theorem zpf_11_4 : ∀ r : vw_C, zcls[11]? = some r → (r.2.1 4).2.2.2 = true ∧ parseFieldDescriptor (r.2.1 4).2.2.1 = some (.object "GraveRegatta$Raft") ∧ (r.2.1 4).1 = RX11 := fun r hr => by
  cases hr
  exact ⟨rfl, by decide +kernel, rfl⟩
theorem zpf_11_5 : ∀ r : vw_C, zcls[11]? = some r → (r.2.1 5).2.2.2 = true ∧ parseFieldDescriptor (r.2.1 5).2.2.1 = some (.object "GraveRegatta$Raft") ∧ (r.2.1 5).1 = RX11 := fun r hr => by
  cases hr
  exact ⟨rfl, by decide +kernel, rfl⟩
theorem zpf_11_6 : ∀ r : vw_C, zcls[11]? = some r → (r.2.1 6).2.2.2 = true ∧ parseFieldDescriptor (r.2.1 6).2.2.1 = some (.object "GraveRegatta$Course") ∧ (r.2.1 6).1 = RX11 := fun r hr => by
  cases hr
  exact ⟨rfl, by decide +kernel, rfl⟩
theorem zpf_11_7 : ∀ r : vw_C, zcls[11]? = some r → (r.2.1 7).2.2.2 = true ∧ parseFieldDescriptor (r.2.1 7).2.2.1 = some (.object "GraveRegatta$Quarrel") ∧ (r.2.1 7).1 = RX11 := fun r hr => by
  cases hr
  exact ⟨rfl, by decide +kernel, rfl⟩
theorem zpf_11_8 : ∀ r : vw_C, zcls[11]? = some r → (r.2.1 8).2.2.2 = true ∧ parseFieldDescriptor (r.2.1 8).2.2.1 = some (.object "GraveRegatta$Watch") ∧ (r.2.1 8).1 = RX11 := fun r hr => by
  cases hr
  exact ⟨rfl, by decide +kernel, rfl⟩
theorem zpf_11_9 : ∀ r : vw_C, zcls[11]? = some r → (r.2.1 9).2.2.2 = true ∧ parseFieldDescriptor (r.2.1 9).2.2.1 = some (.object "GraveRegatta$Search") ∧ (r.2.1 9).1 = RX11 := fun r hr => by
  cases hr
  exact ⟨rfl, by decide +kernel, rfl⟩
theorem zpf_11_10 : ∀ r : vw_C, zcls[11]? = some r → (r.2.1 10).2.2.2 = true ∧ parseFieldDescriptor (r.2.1 10).2.2.1 = some (.object "GraveRegatta$Pump") ∧ (r.2.1 10).1 = RX11 := fun r hr => by
  cases hr
  exact ⟨rfl, by decide +kernel, rfl⟩
theorem zpf_12_0 : ∀ r : vw_C, zcls[12]? = some r → (r.2.1 0).2.2.2 = true ∧ parseFieldDescriptor (r.2.1 0).2.2.1 = some (.array .int) ∧ (r.2.1 0).1 = RX12 := fun r hr => by
  cases hr
  exact ⟨rfl, by decide +kernel, rfl⟩
theorem zpf_12_1 : ∀ r : vw_C, zcls[12]? = some r → (r.2.1 1).2.2.2 = true ∧ parseFieldDescriptor (r.2.1 1).2.2.1 = some (.array .boolean) ∧ (r.2.1 1).1 = RX12 := fun r hr => by
  cases hr
  exact ⟨rfl, by decide +kernel, rfl⟩
theorem zpf_12_9 : ∀ r : vw_C, zcls[12]? = some r → (r.2.1 9).2.2.2 = true ∧ parseFieldDescriptor (r.2.1 9).2.2.1 = some (.array .int) ∧ (r.2.1 9).1 = RX12 := fun r hr => by
  cases hr
  exact ⟨rfl, by decide +kernel, rfl⟩
theorem zpf_12_23 : ∀ r : vw_C, zcls[12]? = some r → (r.2.1 23).2.2.2 = true ∧ parseFieldDescriptor (r.2.1 23).2.2.1 = some (.array .int) ∧ (r.2.1 23).1 = RX12 := fun r hr => by
  cases hr
  exact ⟨rfl, by decide +kernel, rfl⟩
theorem zpf_12_24 : ∀ r : vw_C, zcls[12]? = some r → (r.2.1 24).2.2.2 = true ∧ parseFieldDescriptor (r.2.1 24).2.2.1 = some (.array .int) ∧ (r.2.1 24).1 = RX12 := fun r hr => by
  cases hr
  exact ⟨rfl, by decide +kernel, rfl⟩
theorem zpf_12_26 : ∀ r : vw_C, zcls[12]? = some r → (r.2.1 26).2.2.2 = true ∧ parseFieldDescriptor (r.2.1 26).2.2.1 = some (.array .int) ∧ (r.2.1 26).1 = RX12 := fun r hr => by
  cases hr
  exact ⟨rfl, by decide +kernel, rfl⟩
theorem zpf_12_27 : ∀ r : vw_C, zcls[12]? = some r → (r.2.1 27).2.2.2 = true ∧ parseFieldDescriptor (r.2.1 27).2.2.1 = some (.array .int) ∧ (r.2.1 27).1 = RX12 := fun r hr => by
  cases hr
  exact ⟨rfl, by decide +kernel, rfl⟩
theorem zpf_12_28 : ∀ r : vw_C, zcls[12]? = some r → (r.2.1 28).2.2.2 = true ∧ parseFieldDescriptor (r.2.1 28).2.2.1 = some (.array .int) ∧ (r.2.1 28).1 = RX12 := fun r hr => by
  cases hr
  exact ⟨rfl, by decide +kernel, rfl⟩
theorem zpf_12_29 : ∀ r : vw_C, zcls[12]? = some r → (r.2.1 29).2.2.2 = true ∧ parseFieldDescriptor (r.2.1 29).2.2.1 = some (.array .boolean) ∧ (r.2.1 29).1 = RX12 := fun r hr => by
  cases hr
  exact ⟨rfl, by decide +kernel, rfl⟩
theorem zpf_12_30 : ∀ r : vw_C, zcls[12]? = some r → (r.2.1 30).2.2.2 = true ∧ parseFieldDescriptor (r.2.1 30).2.2.1 = some (.array .boolean) ∧ (r.2.1 30).1 = RX12 := fun r hr => by
  cases hr
  exact ⟨rfl, by decide +kernel, rfl⟩
theorem zpf_12_31 : ∀ r : vw_C, zcls[12]? = some r → (r.2.1 31).2.2.2 = true ∧ parseFieldDescriptor (r.2.1 31).2.2.1 = some (.array .int) ∧ (r.2.1 31).1 = RX12 := fun r hr => by
  cases hr
  exact ⟨rfl, by decide +kernel, rfl⟩
theorem zpf_12_34 : ∀ r : vw_C, zcls[12]? = some r → (r.2.1 34).2.2.2 = true ∧ parseFieldDescriptor (r.2.1 34).2.2.1 = some (.array .int) ∧ (r.2.1 34).1 = RX12 := fun r hr => by
  cases hr
  exact ⟨rfl, by decide +kernel, rfl⟩
theorem zpf_12_36 : ∀ r : vw_C, zcls[12]? = some r → (r.2.1 36).2.2.2 = true ∧ parseFieldDescriptor (r.2.1 36).2.2.1 = some (.array .int) ∧ (r.2.1 36).1 = RX12 := fun r hr => by
  cases hr
  exact ⟨rfl, by decide +kernel, rfl⟩
theorem zdv_0 : ∀ j, j < 8 → (zrk 0 j = 0 → defaultValue (tyX0 j) = .int 0) ∧ (¬ zrk 0 j = 0 → defaultValue (tyX0 j) = .null) := by decide +kernel
theorem zdv_1 : ∀ j, j < 12 → (zrk 1 j = 0 → defaultValue (tyX1 j) = .int 0) ∧ (¬ zrk 1 j = 0 → defaultValue (tyX1 j) = .null) := by decide +kernel
theorem zdv_2 : ∀ j, j < 5 → (zrk 2 j = 0 → defaultValue (tyX2 j) = .int 0) ∧ (¬ zrk 2 j = 0 → defaultValue (tyX2 j) = .null) := by decide +kernel
theorem zdv_3 : ∀ j, j < 1 → (zrk 3 j = 0 → defaultValue (tyX3 j) = .int 0) ∧ (¬ zrk 3 j = 0 → defaultValue (tyX3 j) = .null) := by decide +kernel
theorem zdv_4 : ∀ j, j < 14 → (zrk 4 j = 0 → defaultValue (tyX4 j) = .int 0) ∧ (¬ zrk 4 j = 0 → defaultValue (tyX4 j) = .null) := by decide +kernel
theorem zdv_5 : ∀ j, j < 11 → (zrk 5 j = 0 → defaultValue (tyX5 j) = .int 0) ∧ (¬ zrk 5 j = 0 → defaultValue (tyX5 j) = .null) := by decide +kernel
theorem zdv_6 : ∀ j, j < 3 → (zrk 6 j = 0 → defaultValue (tyX6 j) = .int 0) ∧ (¬ zrk 6 j = 0 → defaultValue (tyX6 j) = .null) := by decide +kernel
theorem zdv_7 : ∀ j, j < 2 → (zrk 7 j = 0 → defaultValue (tyX7 j) = .int 0) ∧ (¬ zrk 7 j = 0 → defaultValue (tyX7 j) = .null) := by decide +kernel
theorem zdv_8 : ∀ j, j < 7 → (zrk 8 j = 0 → defaultValue (tyX8 j) = .int 0) ∧ (¬ zrk 8 j = 0 → defaultValue (tyX8 j) = .null) := by decide +kernel
theorem zdv_9 : ∀ j, j < 9 → (zrk 9 j = 0 → defaultValue (tyX9 j) = .int 0) ∧ (¬ zrk 9 j = 0 → defaultValue (tyX9 j) = .null) := by decide +kernel
theorem zdv_11 : ∀ j, j < 11 → (zrk 11 j = 0 → defaultValue (tyX11 j) = .int 0) ∧ (¬ zrk 11 j = 0 → defaultValue (tyX11 j) = .null) := by decide +kernel
theorem zdv_12 : ∀ j, j < 38 → (zrk 12 j = 0 → defaultValue (tyX12 j) = .int 0) ∧ (¬ zrk 12 j = 0 → defaultValue (tyX12 j) = .null) := by decide +kernel
/-- what is written while the object at a is under construction: its fields ks; all behind it is done -/
def zsw (σ : Nat → Nat → Bool) (a : Nat) (ks : List Nat) : Nat → Nat → Bool := fun o k => if o = a then ks.contains k else if a < o then true else σ o k
def zst (σ : Nat → Nat → Bool) (a : Nat) : Nat → Nat → Bool := fun o k => if a ≤ o then true else σ o k
theorem zsw_put (σ : Nat → Nat → Bool) (a : Nat) (ks : List Nat) (k N : Nat) : ∀ q, q < N → ∀ j, zsw σ a (k :: ks) q j = zsu (zsw σ a ks) a k q j := by
  intro q _ j
  unfold zsw zsu
  by_cases h : q = a
  · subst h
    by_cases h2 : j = k
    · subst h2
      simp
    · simp [h2]
  · simp [h]
theorem zst_zsw (σ : Nat → Nat → Bool) {a N : Nat} (ks : List Nat) (h : a < N) : zst (zsw σ a ks) N = zsw σ a ks := by
  funext o k
  unfold zst zsw
  by_cases h1 : N ≤ o
  · rw [if_pos h1, if_neg (by omega), if_pos (by omega)]
  · rw [if_neg h1]
theorem zsw_new (σ : Nat → Nat → Bool) (N j : Nat) : zsw σ N [] N j = false := by
  unfold zsw
  rw [if_pos rfl]
  rfl
theorem zsw_lo (σ : Nat → Nat → Bool) {N q : Nat} (h : q < N) : zsw σ N [] q = σ q := by
  funext j
  unfold zsw
  rw [if_neg (by omega), if_neg (by omega)]
theorem zsw_end {σ : Nat → Nat → Bool} {a ci N : Nat} {ks : List Nat} (hk : zkd a = ci) (hc : ci < 20) (h : (List.range (znf ci)).all (fun i => decide (zrk ci i ≠ 1) || ks.contains i) = true) :
    ∀ o, o < N → ∀ i, (zkd o < 20 → i < znf (zkd o) → zrk (zkd o) i = 1 → zst σ a o i = zsw σ a ks o i) ∧ (22 ≤ zkd o → zst σ a o i = zsw σ a ks o i) := by
  intro o _ i
  by_cases ho : o = a
  · subst ho
    refine ⟨fun _ h2 h3 => ?_, fun h2 => by omega⟩
    rw [hk] at h2 h3
    have h4 := List.all_eq_true.mp h i (List.mem_range.mpr h2)
    simp only [Bool.or_eq_true, decide_eq_true_eq] at h4
    rcases h4 with h4 | h4
    · exact absurd h3 h4
    · unfold zst zsw
      rw [if_pos (Nat.le_refl _), if_pos rfl, h4]
  · have : zst σ a o i = zsw σ a ks o i := by
      unfold zst zsw
      by_cases h1 : a ≤ o
      · rw [if_pos h1, if_neg ho, if_pos (by omega)]
      · rw [if_neg h1, if_neg ho, if_neg (by omega)]
    exact ⟨fun _ _ _ => this, fun _ => this⟩
theorem m_X3_init {l : Launch} {g : zL} (a0 : Nat) (σ : Nat → Nat → Bool) (μ : zM) (hk : zkd a0 = 3) : zMet l g yX3_init cX3_init 1 none 1 1 18 (a0 + 1) (a0 + 2) (zsw σ a0 []) (zst σ a0) [.ref (zb g + a0)] μ none (zupr μ (a0 + 1) (fun _ => 0)) := by
  have hz0 := zs_3_0 (zT_of hk (by decide))
  refine zMet.of (by decide +kernel) (Nat.le_of_ble_eq_true rfl) ?_
  intro p e s m args below meth c C0
  refine z_loc (lo1 := [(0, .ref (zb g + a0))]) rfl ?_
  refine z_aload_n C0 dX3_init_0 rfl 0 rfl ?_
  refine z_oini C0 rfl (by decide) kO_RX3_3 kO_i kO_b kO_c dX3_init_1 ?_
  refine z_aload_n C0 dX3_init_4 rfl 0 rfl ?_
  refine z_bipush C0 dX3_init_5 (v := 18) rfl ?_
  refine z_newA C0 (len := 18) (t0 := 0) (kind := 20) (ty := .int) rfl rfl rfl hz0.2.2.1 (by decide) hz0.2.2.2 kar_int (Or.inl rfl) (by decide) (by decide) (by decide) (by decide) (by decide) dX3_init_7 ?_
  refine z_putr C0 (σ1 := zsw σ a0 [0]) hk (by omega) kf_3_11 zpf_3_0 rfl (fun q => ⟨rfl, rfl⟩) zr_3_0 hz0.1 (zsw_put σ a0 [] 0 _) dX3_init_9 ?_
  refine z_sig (zsw_end (ks := [0]) hk (by decide) (by decide +kernel)) ?_
  exact z_vret C0 rfl dX3_init_12

theorem m_X9_init {l : Launch} {g : zL} (a0 : Nat) (σ : Nat → Nat → Bool) (μ : zM) (hk : zkd a0 = 9) : zMet l g yX9_init cX9_init 1 none 1 4 43 (a0 + 1) (a0 + 5) (zsw σ a0 []) (zst σ a0) [.ref (zb g + a0)] μ none (zupr (zupr (zupr (zupr μ (a0 + 1) (fun _ => 0)) (a0 + 2) (fun _ => 0)) (a0 + 3) (fun _ => 0)) (a0 + 4) (fun _ => 0)) := by
  have hz4 := zs_9_4 (zT_of hk (by decide))
  have hz6 := zs_9_6 (zT_of hk (by decide))
  have hz7 := zs_9_7 (zT_of hk (by decide))
  have hz8 := zs_9_8 (zT_of hk (by decide))
  refine zMet.of (by decide +kernel) (Nat.le_of_ble_eq_true rfl) ?_
  intro p e s m args below meth c C0
  refine z_loc (lo1 := [(0, .ref (zb g + a0))]) rfl ?_
  refine z_aload_n C0 dX9_init_0 rfl 0 rfl ?_
  refine z_oini C0 rfl (by decide) kO_RX9_3 kO_i kO_b kO_c dX9_init_1 ?_
  refine z_aload_n C0 dX9_init_4 rfl 0 rfl ?_
  refine z_iconst C0 dX9_init_5 (v := 4) rfl ?_
  refine z_newA C0 (len := 4) (t0 := 0) (kind := 20) (ty := .int) rfl rfl rfl hz4.2.2.1 (by decide) hz4.2.2.2 kar_int (Or.inl rfl) (by decide) (by decide) (by decide) (by decide) (by decide) dX9_init_6 ?_
  refine z_putr C0 (σ1 := zsw σ a0 [4]) hk (by omega) kf_9_11 zpf_9_4 rfl (fun q => ⟨rfl, rfl⟩) zr_9_4 hz4.1 (zsw_put σ a0 [] 4 _) dX9_init_8 ?_
  refine z_aload_n C0 dX9_init_11 rfl 0 rfl ?_
  refine z_bipush C0 dX9_init_12 (v := 9) rfl ?_
  refine z_newA C0 (len := 9) (t0 := 0) (kind := 20) (ty := .int) rfl rfl rfl hz6.2.2.1 (by decide) hz6.2.2.2 kar_int (Or.inl rfl) (by decide) (by decide) (by decide) (by decide) (by decide) dX9_init_14 ?_
  refine z_putr C0 (σ1 := zsw σ a0 [6, 4]) hk (by omega) kf_9_15 zpf_9_6 rfl (fun q => ⟨rfl, rfl⟩) zr_9_6 hz6.1 (zsw_put σ a0 [4] 6 _) dX9_init_16 ?_
  refine z_aload_n C0 dX9_init_19 rfl 0 rfl ?_
  refine z_bipush C0 dX9_init_20 (v := 25) rfl ?_
  refine z_newA C0 (len := 25) (t0 := 0) (kind := 20) (ty := .int) rfl rfl rfl hz7.2.2.1 (by decide) hz7.2.2.2 kar_int (Or.inl rfl) (by decide) (by decide) (by decide) (by decide) (by decide) dX9_init_22 ?_
  refine z_putr C0 (σ1 := zsw σ a0 [7, 6, 4]) hk (by omega) kf_9_18 zpf_9_7 rfl (fun q => ⟨rfl, rfl⟩) zr_9_7 hz7.1 (zsw_put σ a0 [6, 4] 7 _) dX9_init_24 ?_
  refine z_aload_n C0 dX9_init_27 rfl 0 rfl ?_
  refine z_iconst C0 dX9_init_28 (v := 5) rfl ?_
  refine z_newA C0 (len := 5) (t0 := 0) (kind := 20) (ty := .int) rfl rfl rfl hz8.2.2.1 (by decide) hz8.2.2.2 kar_int (Or.inl rfl) (by decide) (by decide) (by decide) (by decide) (by decide) dX9_init_29 ?_
  refine z_putr C0 (σ1 := zsw σ a0 [8, 7, 6, 4]) hk (by omega) kf_9_21 zpf_9_8 rfl (fun q => ⟨rfl, rfl⟩) zr_9_8 hz8.1 (zsw_put σ a0 [7, 6, 4] 8 _) dX9_init_31 ?_
  refine z_sig (zsw_end (ks := [8, 7, 6, 4]) hk (by decide) (by decide +kernel)) ?_
  exact z_vret C0 rfl dX9_init_34
theorem zro_2_4 : ∀ a, a < zNN → zkd a = 2 → ∀ j, j < 9 → zkd (a + 3 + 1 + j) = 20 ∧ zln (a + 3 + 1 + j) = 4 ∧ zFX (a + 3) j = a + 3 + 1 + j := by decide +kernel
theorem m_X2_init {l : Launch} {g : zL} (a0 : Nat) (σ : Nat → Nat → Bool) (μ : zM) (hJ : ∀ U : State, g.2.2.2.2 U.vm → (Cond.arrayOver (.array .int)).before #[] U = true) (hk : zkd a0 = 2) : zMet l g yX2_init cX2_init 1 none 1 12 61 (a0 + 1) (a0 + 13) (zsw σ a0 []) (zst σ a0) [.ref (zb g + a0)] μ none (fun q => if a0 + 3 ≤ q then (fun _ => 0) else (zupr (zupr μ (a0 + 1) (fun _ => 0)) (a0 + 2) (fun _ => 0)) q) := by
  have hz2 := zs_2_2 (zT_of hk (by decide))
  have hz3 := zs_2_3 (zT_of hk (by decide))
  have hz4 := zs_2_4 (zT_of hk (by decide))
  have hw4 := zro_2_4 a0 (zkd_lt (by omega)) hk
  refine zMet.of (by decide +kernel) (Nat.le_of_ble_eq_true rfl) ?_
  intro p e s m args below meth c C0
  refine z_loc (lo1 := [(0, .ref (zb g + a0))]) rfl ?_
  refine z_aload_n C0 dX2_init_0 rfl 0 rfl ?_
  refine z_oini C0 rfl (by decide) kO_RX2_3 kO_i kO_b kO_c dX2_init_1 ?_
  refine z_aload_n C0 dX2_init_4 rfl 0 rfl ?_
  refine z_bipush C0 dX2_init_5 (v := 8) rfl ?_
  refine z_newA C0 (len := 8) (t0 := 0) (kind := 20) (ty := .int) rfl rfl rfl hz2.2.2.1 (by decide) hz2.2.2.2 kar_int (Or.inl rfl) (by decide) (by decide) (by decide) (by decide) (by decide) dX2_init_7 ?_
  refine z_putr C0 (σ1 := zsw σ a0 [2]) hk (by omega) kf_2_11 zpf_2_2 rfl (fun q => ⟨rfl, rfl⟩) zr_2_2 hz2.1 (zsw_put σ a0 [] 2 _) dX2_init_9 ?_
  refine z_aload_n C0 dX2_init_12 rfl 0 rfl ?_
  refine z_bipush C0 dX2_init_13 (v := 8) rfl ?_
  refine z_newA C0 (len := 8) (t0 := 0) (kind := 20) (ty := .int) rfl rfl rfl hz3.2.2.1 (by decide) hz3.2.2.2 kar_int (Or.inl rfl) (by decide) (by decide) (by decide) (by decide) (by decide) dX2_init_15 ?_
  refine z_putr C0 (σ1 := zsw σ a0 [3, 2]) hk (by omega) kf_2_15 zpf_2_3 rfl (fun q => ⟨rfl, rfl⟩) zr_2_3 hz3.1 (zsw_put σ a0 [2] 3 _) dX2_init_17 ?_
  refine z_aload_n C0 dX2_init_20 rfl 0 rfl ?_
  refine z_bipush C0 dX2_init_21 (v := 9) rfl ?_
  refine z_iconst C0 dX2_init_23 (v := 4) rfl ?_
  refine z_mna C0 (len := 9) (w := 4) rfl kcl_RX2_18 (hJ s C0.2.2.2.2.2.2.2.1) kar_int (by decide) (by decide) (by decide) (by decide) (by decide) (by decide) hz4.2.2.1 hz4.2.2.2 (fun j hj => ⟨(hw4 j hj).1, (hw4 j hj).2.1, (hw4 j hj).2.2, ?_⟩) (by decide) (by decide) rfl dX2_init_24 ?_
  · unfold zsw
    rw [if_neg (by omega), if_pos (by omega)]
  refine z_putr C0 (σ1 := zsw σ a0 [4, 3, 2]) hk (by omega) kf_2_20 zpf_2_4 rfl (fun q => ⟨rfl, rfl⟩) zr_2_4 hz4.1 (zsw_put σ a0 [3, 2] 4 _) dX2_init_28 ?_
  refine z_sig (zsw_end (ks := [4, 3, 2]) hk (by decide) (by decide +kernel)) ?_
  exact z_vret C0 rfl dX2_init_31
theorem zro_7_0 : ∀ a, a < zNN → zkd a = 7 → ∀ j, j < 9 → zkd (a + 1 + 1 + j) = 20 ∧ zln (a + 1 + 1 + j) = 256 ∧ zFX (a + 1) j = a + 1 + 1 + j := by decide +kernel
theorem zro_7_1 : ∀ a, a < zNN → zkd a = 7 → ∀ j, j < 9 → zkd (a + 11 + 1 + j) = 20 ∧ zln (a + 11 + 1 + j) = 256 ∧ zFX (a + 11) j = a + 11 + 1 + j := by decide +kernel
theorem m_X7_init {l : Launch} {g : zL} (a0 : Nat) (σ : Nat → Nat → Bool) (μ : zM) (hJ : ∀ U : State, g.2.2.2.2 U.vm → (Cond.arrayOver (.array .int)).before #[] U = true) (hk : zkd a0 = 7) : zMet l g yX7_init cX7_init 1 none 1 20 4626 (a0 + 1) (a0 + 21) (zsw σ a0 []) (zst σ a0) [.ref (zb g + a0)] μ none (fun q => if a0 + 11 ≤ q then (fun _ => 0) else (fun q => if a0 + 1 ≤ q then (fun _ => 0) else μ q) q) := by
  have hz0 := zs_7_0 (zT_of hk (by decide))
  have hw0 := zro_7_0 a0 (zkd_lt (by omega)) hk
  have hz1 := zs_7_1 (zT_of hk (by decide))
  have hw1 := zro_7_1 a0 (zkd_lt (by omega)) hk
  refine zMet.of (by decide +kernel) (Nat.le_of_ble_eq_true rfl) ?_
  intro p e s m args below meth c C0
  refine z_loc (lo1 := [(0, .ref (zb g + a0))]) rfl ?_
  refine z_aload_n C0 dX7_init_0 rfl 0 rfl ?_
  refine z_oini C0 rfl (by decide) kO_RX7_3 kO_i kO_b kO_c dX7_init_1 ?_
  refine z_aload_n C0 dX7_init_4 rfl 0 rfl ?_
  refine z_bipush C0 dX7_init_5 (v := 9) rfl ?_
  refine z_sipush C0 dX7_init_7 (v := 256) rfl ?_
  refine z_mna C0 (len := 9) (w := 256) rfl kcl_RX7_11 (hJ s C0.2.2.2.2.2.2.2.1) kar_int (by decide) (by decide) (by decide) (by decide) (by decide) (by decide) hz0.2.2.1 hz0.2.2.2 (fun j hj => ⟨(hw0 j hj).1, (hw0 j hj).2.1, (hw0 j hj).2.2, ?_⟩) (by decide) (by decide) rfl dX7_init_10 ?_
  · unfold zsw
    rw [if_neg (by omega), if_pos (by omega)]
  refine z_putr C0 (σ1 := zsw σ a0 [0]) hk (by omega) kf_7_13 zpf_7_0 rfl (fun q => ⟨rfl, rfl⟩) zr_7_0 hz0.1 (zsw_put σ a0 [] 0 _) dX7_init_14 ?_
  refine z_aload_n C0 dX7_init_17 rfl 0 rfl ?_
  refine z_bipush C0 dX7_init_18 (v := 9) rfl ?_
  refine z_sipush C0 dX7_init_20 (v := 256) rfl ?_
  refine z_mna C0 (len := 9) (w := 256) rfl kcl_RX7_11 (hJ s C0.2.2.2.2.2.2.2.1) kar_int (by decide) (by decide) (by decide) (by decide) (by decide) (by decide) hz1.2.2.1 hz1.2.2.2 (fun j hj => ⟨(hw1 j hj).1, (hw1 j hj).2.1, (hw1 j hj).2.2, ?_⟩) (by decide) (by decide) rfl dX7_init_23 ?_
  · unfold zsw
    rw [if_neg (by omega), if_pos (by omega)]
  refine z_putr C0 (σ1 := zsw σ a0 [1, 0]) hk (by omega) kf_7_16 zpf_7_1 rfl (fun q => ⟨rfl, rfl⟩) zr_7_1 hz1.1 (zsw_put σ a0 [0] 1 _) dX7_init_27 ?_
  refine z_sig (zsw_end (ks := [1, 0]) hk (by decide) (by decide +kernel)) ?_
  exact z_vret C0 rfl dX7_init_30
theorem m_X4_init {l : Launch} {g : zL} (a0 : Nat) (b0 : Nat) (σ : Nat → Nat → Bool) (μ : zM) (hb : b0 < 2147483648) (hk : zkd a0 = 4) : zMet l g yX4_init cX4_init 2 none 1 2 21 (a0 + 1) (a0 + 3) (zsw σ a0 []) (zst σ a0) [.ref (zb g + a0), .ref (zb g + b0)] μ none (zup (zup (zupr (zupr μ (a0 + 1) (fun _ => 0)) (a0 + 2) (fun _ => 0)) a0 0 (nI b0)) a0 1 (nI b0)) := by
  have hz12 := zs_4_12 (zT_of hk (by decide))
  have hz13 := zs_4_13 (zT_of hk (by decide))
  refine zMet.of (by decide +kernel) (Nat.le_of_ble_eq_true rfl) ?_
  intro p e s m args below meth c C0
  refine z_loc (lo1 := [(0, .ref (zb g + a0)), (1, .ref (zb g + b0))]) rfl ?_
  refine z_aload_n C0 dX4_init_0 rfl 0 rfl ?_
  refine z_oini C0 rfl (by decide) kO_RX4_3 kO_i kO_b kO_c dX4_init_1 ?_
  refine z_aload_n C0 dX4_init_4 rfl 0 rfl ?_
  refine z_iconst C0 dX4_init_5 (v := 5) rfl ?_
  refine z_newA C0 (len := 5) (t0 := 0) (kind := 20) (ty := .int) rfl rfl rfl hz12.2.2.1 (by decide) hz12.2.2.2 kar_int (Or.inl rfl) (by decide) (by decide) (by decide) (by decide) (by decide) dX4_init_6 ?_
  refine z_putr C0 (σ1 := zsw σ a0 [12]) hk (by omega) kf_4_9 zpf_4_12 rfl (fun q => ⟨rfl, rfl⟩) zr_4_12 hz12.1 (zsw_put σ a0 [] 12 _) dX4_init_8 ?_
  refine z_aload_n C0 dX4_init_11 rfl 0 rfl ?_
  refine z_bipush C0 dX4_init_12 (v := 16) rfl ?_
  refine z_newA C0 (len := 16) (t0 := 0) (kind := 20) (ty := .int) rfl rfl rfl hz13.2.2.1 (by decide) hz13.2.2.2 kar_int (Or.inl rfl) (by decide) (by decide) (by decide) (by decide) (by decide) dX4_init_14 ?_
  refine z_putr C0 (σ1 := zsw σ a0 [13, 12]) hk (by omega) kf_4_15 zpf_4_13 rfl (fun q => ⟨rfl, rfl⟩) zr_4_13 hz13.1 (zsw_put σ a0 [12] 13 _) dX4_init_16 ?_
  refine z_aload_n C0 dX4_init_19 rfl 0 rfl ?_
  refine z_aload_n C0 dX4_init_20 rfl 1 rfl ?_
  refine z_putd C0 (b := b0) hk (by omega) kf_4_18 zp_4_0 zr_4_0 (fun q => ⟨rfl, rfl⟩) rfl hb rfl dX4_init_21 ?_
  refine z_aload_n C0 dX4_init_24 rfl 0 rfl ?_
  refine z_aload_n C0 dX4_init_25 rfl 1 rfl ?_
  refine z_putd C0 (b := b0) hk (by omega) kf_4_22 zp_4_1 zr_4_1 (fun q => ⟨rfl, rfl⟩) rfl hb rfl dX4_init_26 ?_
  refine z_sig (zsw_end (ks := [13, 12]) hk (by decide) (by decide +kernel)) ?_
  exact z_vret C0 rfl dX4_init_29
theorem m_X0_init {l : Launch} {g : zL} (a0 : Nat) (b0 : Nat) (σ : Nat → Nat → Bool) (μ : zM) (hb : b0 < 2147483648) (hk : zkd a0 = 0) : zMet l g yX0_init cX0_init 2 none 2 10 2412 (a0 + 1) (a0 + 11) (zsw σ a0 []) (zst σ a0) [.ref (zb g + a0), .ref (zb g + b0)] μ none (zup (zup (zupr (zupr (znew (zupr (zupr (zupr (zupr (zupr (zupr (zupr μ (a0 + 1) (fun _ => 0)) (a0 + 2) (fun _ => 0)) (a0 + 3) (fun _ => 0)) (a0 + 4) (fun _ => 0)) (a0 + 5) (fun _ => 0)) (a0 + 6) (fun _ => 0)) (a0 + 7) (fun _ => 0)) (a0 + 8) 4) (a0 + 8 + 1) (fun _ => 0)) (a0 + 8 + 2) (fun _ => 0)) (a0 + 8) 0 (nI b0)) (a0 + 8) 1 (nI b0)) := by
  have hz0 := zs_0_0 (zT_of hk (by decide))
  have hz1 := zs_0_1 (zT_of hk (by decide))
  have hz2 := zs_0_2 (zT_of hk (by decide))
  have hz3 := zs_0_3 (zT_of hk (by decide))
  have hz4 := zs_0_4 (zT_of hk (by decide))
  have hz5 := zs_0_5 (zT_of hk (by decide))
  have hz6 := zs_0_6 (zT_of hk (by decide))
  have hz7 := zs_0_7 (zT_of hk (by decide))
  refine zMet.of (by decide +kernel) (Nat.le_of_ble_eq_true rfl) ?_
  intro p e s m args below meth c C0
  refine z_loc (lo1 := [(0, .ref (zb g + a0)), (1, .ref (zb g + b0))]) rfl ?_
  refine z_aload_n C0 dX0_init_0 rfl 0 rfl ?_
  refine z_oini C0 rfl (by decide) kO_RX0_3 kO_i kO_b kO_c dX0_init_1 ?_
  refine z_aload_n C0 dX0_init_4 rfl 0 rfl ?_
  refine z_bipush C0 dX0_init_5 (v := 64) rfl ?_
  refine z_newA C0 (len := 64) (t0 := 0) (kind := 20) (ty := .int) rfl rfl rfl hz0.2.2.1 (by decide) hz0.2.2.2 kar_int (Or.inl rfl) (by decide) (by decide) (by decide) (by decide) (by decide) dX0_init_7 ?_
  refine z_putr C0 (σ1 := zsw σ a0 [0]) hk (by omega) kf_0_11 zpf_0_0 rfl (fun q => ⟨rfl, rfl⟩) zr_0_0 hz0.1 (zsw_put σ a0 [] 0 _) dX0_init_9 ?_
  refine z_aload_n C0 dX0_init_12 rfl 0 rfl ?_
  refine z_bipush C0 dX0_init_13 (v := 9) rfl ?_
  refine z_newA C0 (len := 9) (t0 := 0) (kind := 20) (ty := .int) rfl rfl rfl hz1.2.2.1 (by decide) hz1.2.2.2 kar_int (Or.inl rfl) (by decide) (by decide) (by decide) (by decide) (by decide) dX0_init_15 ?_
  refine z_putr C0 (σ1 := zsw σ a0 [1, 0]) hk (by omega) kf_0_15 zpf_0_1 rfl (fun q => ⟨rfl, rfl⟩) zr_0_1 hz1.1 (zsw_put σ a0 [0] 1 _) dX0_init_17 ?_
  refine z_aload_n C0 dX0_init_20 rfl 0 rfl ?_
  refine z_sipush C0 dX0_init_21 (v := 1296) rfl ?_
  refine z_newA C0 (len := 1296) (t0 := 0) (kind := 20) (ty := .int) rfl rfl rfl hz2.2.2.1 (by decide) hz2.2.2.2 kar_int (Or.inl rfl) (by decide) (by decide) (by decide) (by decide) (by decide) dX0_init_24 ?_
  refine z_putr C0 (σ1 := zsw σ a0 [2, 1, 0]) hk (by omega) kf_0_18 zpf_0_2 rfl (fun q => ⟨rfl, rfl⟩) zr_0_2 hz2.1 (zsw_put σ a0 [1, 0] 2 _) dX0_init_26 ?_
  refine z_aload_n C0 dX0_init_29 rfl 0 rfl ?_
  refine z_sipush C0 dX0_init_30 (v := 144) rfl ?_
  refine z_newA C0 (len := 144) (t0 := 0) (kind := 20) (ty := .int) rfl rfl rfl hz3.2.2.1 (by decide) hz3.2.2.2 kar_int (Or.inl rfl) (by decide) (by decide) (by decide) (by decide) (by decide) dX0_init_33 ?_
  refine z_putr C0 (σ1 := zsw σ a0 [3, 2, 1, 0]) hk (by omega) kf_0_21 zpf_0_3 rfl (fun q => ⟨rfl, rfl⟩) zr_0_3 hz3.1 (zsw_put σ a0 [2, 1, 0] 3 _) dX0_init_35 ?_
  refine z_aload_n C0 dX0_init_38 rfl 0 rfl ?_
  refine z_sipush C0 dX0_init_39 (v := 576) rfl ?_
  refine z_newA C0 (len := 576) (t0 := 0) (kind := 20) (ty := .int) rfl rfl rfl hz4.2.2.1 (by decide) hz4.2.2.2 kar_int (Or.inl rfl) (by decide) (by decide) (by decide) (by decide) (by decide) dX0_init_42 ?_
  refine z_putr C0 (σ1 := zsw σ a0 [4, 3, 2, 1, 0]) hk (by omega) kf_0_24 zpf_0_4 rfl (fun q => ⟨rfl, rfl⟩) zr_0_4 hz4.1 (zsw_put σ a0 [3, 2, 1, 0] 4 _) dX0_init_44 ?_
  refine z_aload_n C0 dX0_init_47 rfl 0 rfl ?_
  refine z_sipush C0 dX0_init_48 (v := 144) rfl ?_
  refine z_newA C0 (len := 144) (t0 := 1) (kind := 21) (ty := .boolean) rfl rfl rfl hz5.2.2.1 (by decide) hz5.2.2.2 kar_boolean (Or.inr rfl) (by decide) (by decide) (by decide) (by decide) (by decide) dX0_init_51 ?_
  refine z_putr C0 (σ1 := zsw σ a0 [5, 4, 3, 2, 1, 0]) hk (by omega) kf_0_27 zpf_0_5 rfl (fun q => ⟨rfl, rfl⟩) zr_0_5 hz5.1 (zsw_put σ a0 [4, 3, 2, 1, 0] 5 _) dX0_init_53 ?_
  refine z_aload_n C0 dX0_init_56 rfl 0 rfl ?_
  refine z_sipush C0 dX0_init_57 (v := 144) rfl ?_
  refine z_newA C0 (len := 144) (t0 := 1) (kind := 21) (ty := .boolean) rfl rfl rfl hz6.2.2.1 (by decide) hz6.2.2.2 kar_boolean (Or.inr rfl) (by decide) (by decide) (by decide) (by decide) (by decide) dX0_init_60 ?_
  refine z_putr C0 (σ1 := zsw σ a0 [6, 5, 4, 3, 2, 1, 0]) hk (by omega) kf_0_31 zpf_0_6 rfl (fun q => ⟨rfl, rfl⟩) zr_0_6 hz6.1 (zsw_put σ a0 [5, 4, 3, 2, 1, 0] 6 _) dX0_init_62 ?_
  refine z_aload_n C0 dX0_init_65 rfl 0 rfl ?_
  refine z_newo (σ' := zsw (zsw σ a0 [6, 5, 4, 3, 2, 1, 0]) (a0 + 8) []) C0 rfl zcl_4 hz7.2.1 kcl_RX0_34 kin_RX4 kii_RX4 zdv_4 (fun j _ _ => zsw_new _ _ _) (fun q hq => zsw_lo _ hq) (by decide) (by decide) dX0_init_66 ?_
  refine z_dup C0 dX0_init_69 rfl ?_
  refine z_aload_n C0 dX0_init_70 rfl 1 rfl ?_
  refine z_callI C0 (nc := 1) (o := a0 + 8) (As := [.ref (zb g + b0)]) (rest := [.ref (zb g + (a0 + 8)), .ref (zb g + a0)]) rfl kc_X4_init.1 kc_X4_init.2.1 kc_X4_init.2.2 (by decide) ⟨by decide, by decide, by decide +kernel⟩ rfl km_RX0_36 (m_X4_init (a0 + 8) b0 (zsw σ a0 [6, 5, 4, 3, 2, 1, 0]) _ hb hz7.2.1) rfl (Nat.le_of_ble_eq_true rfl) (by decide) (by decide) (by decide) (by omega) rfl dX0_init_71 ?_
  rw [zst_zsw σ [6, 5, 4, 3, 2, 1, 0] (by omega)]
  refine z_putr C0 (σ1 := zsw σ a0 [7, 6, 5, 4, 3, 2, 1, 0]) hk (by omega) kf_0_39 zpf_0_7 rfl (fun q => ⟨rfl, rfl⟩) zr_0_7 hz7.1 (zsw_put σ a0 [6, 5, 4, 3, 2, 1, 0] 7 _) dX0_init_74 ?_
  refine z_sig (zsw_end (ks := [7, 6, 5, 4, 3, 2, 1, 0]) hk (by decide) (by decide +kernel)) ?_
  exact z_vret C0 rfl dX0_init_77
theorem m_X6_init {l : Launch} {g : zL} (a0 : Nat) (σ : Nat → Nat → Bool) (μ : zM) (v : Int32) {w : Nat} (hk : zkd a0 = 6) (hl : zln (a0 + 1) = w) (hw : (zmax 0 v * 3).toNatClampNeg = w) (hn : ¬ zmax 0 v * 3 < 0) (hb : w * 4 ≤ 536870912) :
    zMet l g yX6_init cX6_init 2 none 1 1 w (a0 + 1) (a0 + 2) (zsw σ a0 []) (zst σ a0) [.ref (zb g + a0), .int v] μ none (zupr (zup μ a0 0 (zmax 0 v)) (a0 + 1) (fun _ => 0)) := by
  have hz1 := zs_6_1 (zT_of hk (by decide))
  refine zMet.of (by decide +kernel) (Nat.le_of_ble_eq_true rfl) ?_
  intro p e s m args below meth c C0
  refine z_loc (lo1 := [(0, .ref (zb g + a0)), (1, .int v)]) rfl ?_
  refine z_aload_n C0 dX6_init_0 rfl 0 rfl ?_
  refine z_oini C0 rfl (by decide) kO_RX6_3 kO_i kO_b kO_c dX6_init_1 ?_
  refine z_aload_n C0 dX6_init_4 rfl 0 rfl ?_
  refine z_iconst C0 dX6_init_5 (v := 0) rfl ?_
  refine z_iload_n C0 dX6_init_6 rfl 1 rfl ?_
  refine z_mmax C0 rfl kM_RX6_9 kM_max (Nat.le_of_ble_eq_true rfl) (Nat.zero_le _) (Nat.zero_le _) dX6_init_7 ?_
  refine z_putfi C0 hk (by omega) kf_6_15 zpf_6_0 rfl zr_6_0 rfl dX6_init_10 ?_
  refine z_aload_n C0 dX6_init_13 rfl 0 rfl ?_
  refine z_aload_n C0 dX6_init_14 rfl 0 rfl ?_
  refine z_geti C0 hk (by omega) kf_6_15 zr_6_0 dX6_init_15 ?_
  rw [zup_self]
  refine z_iconst C0 dX6_init_18 (v := 3) rfl ?_
  refine z_imul C0 dX6_init_19 ?_
  refine z_newA C0 (len := w) (t0 := 0) (kind := 20) (ty := .int) rfl rfl rfl hz1.2.2.1 (by decide) hl kar_int (Or.inl rfl) hn hw hb (by decide) (Nat.le_of_eq (Nat.zero_add w)) dX6_init_20 ?_
  refine z_putr C0 (σ1 := zsw σ a0 [1]) hk (by omega) kf_6_21 zpf_6_1 rfl (fun q => ⟨rfl, rfl⟩) zr_6_1 hz1.1 (zsw_put σ a0 [] 1 _) dX6_init_22 ?_
  refine z_sig (zsw_end (ks := [1]) hk (by decide) (by decide +kernel)) ?_
  rw [show 0 + w = w from Nat.zero_add w]
  exact z_vret C0 rfl dX6_init_25


