theorem kA : Cond.native arraycopyName ∈ ztbl ∧ Cond.static arraycopyName ∈ ztbl ∧ Cond.initialized "java/lang/System" ∈ ztbl := ⟨zmk1 82 (by decide +kernel) rfl, zmk1 81 (by decide +kernel) rfl, zmk1 6 (by decide +kernel) rfl⟩
theorem km_RX0_125 : Cond.methodLink RX0 125 arraycopyName ∈ ztbl := zmk4 225 (by decide +kernel) rfl
theorem km_RX1_54 : Cond.methodLink RX1 54 arraycopyName ∈ ztbl := zmk1 80 (by decide +kernel) rfl
theorem km_RX2_41 : Cond.methodLink RX2 41 arraycopyName ∈ ztbl := zmk5 187 (by decide +kernel) rfl
theorem km_RX6_31 : Cond.methodLink RX6 31 arraycopyName ∈ ztbl := zmk3 170 (by decide +kernel) rfl
theorem km_RX7_31 : Cond.methodLink RX7 31 arraycopyName ∈ ztbl := zmk5 141 (by decide +kernel) rfl
theorem km_RX8_69 : Cond.methodLink RX8 69 arraycopyName ∈ ztbl := zmk3 230 (by decide +kernel) rfl
/-- System.arraycopy between cells of the memory -/
def zcpg (sp dp n : Int32) (n0 n1 : Nat) : Bool := decide (0 ≤ sp) && (decide (0 ≤ dp) && (decide (0 ≤ n) && (decide (sp.toNatClampNeg + n.toNatClampNeg ≤ n0) && decide (dp.toNatClampNeg + n.toNatClampNeg ≤ n1))))
def zcpb (μ : zM) (a : Nat) (sp n : Int32) : Bool := (List.range n.toNatClampNeg).all (fun i => z01 (μ a (sp.toNatClampNeg + i)))
def zcp (μ : zM) (a b : Nat) (sp dp n : Int32) : zM := zupr μ b (va_cpy (μ a) (μ b) sp.toNatClampNeg dp.toNatClampNeg n.toNatClampNeg)
theorem zcpg_of {sp dp n : Int32} {n0 n1 : Nat} (h : zcpg sp dp n n0 n1 = true) : ¬ sp < 0 ∧ ¬ dp < 0 ∧ ¬ n < 0 ∧ sp.toNatClampNeg + n.toNatClampNeg ≤ n0 ∧ dp.toNatClampNeg + n.toNatClampNeg ≤ n1 := by
  simp only [zcpg, Bool.and_eq_true, decide_eq_true_eq] at h
  exact ⟨Int32.not_lt.mpr h.1, Int32.not_lt.mpr h.2.1, Int32.not_lt.mpr h.2.2.1, h.2.2.2.1, h.2.2.2.2⟩
theorem zupr_self (μ : zM) (o : Nat) (r : Nat → Int32) : zupr μ o r o = r := by simp [zupr]
theorem zupr_ne (μ : zM) {o q : Nat} (r : Nat → Int32) (h : q ≠ o) : zupr μ o r q = μ q := by simp [zupr, h]
theorem z01_fit {v : Int32} (h : z01 v = true) : fits .boolean (.int v) = true := by
  simp only [z01, Bool.or_eq_true, decide_eq_true_eq] at h
  rcases h with h | h <;> subst h <;> decide +kernel
section ZCOPY
variable {p : Program} {l : Launch} {e : Env} {R : Room} {s : State} {m : MethodId} {args : Array Value} {below : List Frame} {meth : Method} {c : Code} {g : zL} {Q : State → Prop} {nL N k n : Nat} {σ : Nat → Nat → Bool} {μ : zM} {cc : ByteArray} {y : MethodName} {ret : Option FieldType} {pc : Nat} {lo : List (Nat × Value)} {st : List Value}
/-- the machine's copy, whatever cell it is taken from -/
theorem z_copyG (C0 : zC p s m args meth c g cc y nL ret) {idx d RC RS : Nat} (hRR : R = zrm (d + 1) RC RS) (hlk : Cond.methodLink y.cls idx arraycopyName ∈ ztbl) (hA4 : Cond.native arraycopyName ∈ ztbl ∧ Cond.static arraycopyName ∈ ztbl ∧ Cond.initialized "java/lang/System" ∈ ztbl)
    {kd t0 n0 n1 b a0 : Nat} {c0 : ClassId} {f : Nat → Int32} {ty : FieldType} {μ1 : zM} (hb : zAr N b kd n1) (hkd : kd = 20 ∨ kd = 21) (hkt : (ztys g)[t0]? = some (g.2.1 kd, ty)) (hprim : refKind ty = false)
    (hsrc : ∀ H, zR g N σ μ H → H[a0]? = some (vp_cell c0 (n0, .inl f)) ∧ ArrOfT s c0 ty) {sp dp len : Int32} (hg : zcpg sp dp len n0 n1 = true) (hfit : ∀ i, i < len.toNatClampNeg → fits ty (.int (f (sp.toNatClampNeg + i))) = true) (hst : (st.map fun v => v.category).sum ≤ 8)
    (hm : μ1 = zupr μ b (va_cpy f (μ b) sp.toNatClampNeg dp.toNatClampNeg len.toNatClampNeg)) (hd : decode cc pc = .ok (.invokestatic idx, 3)) (kk : Z p l e R s m args below meth c g Q nL N k n σ μ1 (pc + 3) lo st) :
    Z p l e R s m args below meth c g Q nL N k n σ μ pc lo (.int len :: .int dp :: .ref (zb g + b) :: .int sp :: .ref a0 :: st) := by
  subst hRR; subst hm
  obtain ⟨h1, h2, h3, h4, h5⟩ := zcpg_of hg
  intro H locs ls hR hS hl T hT X
  have nn : ∀ z : Int32, ¬ z < 0 → z.toInt = (z.toNatClampNeg : Int) := by
    intro z hz
    have hz0 : (0 : Int) ≤ z.toInt := by
      have := Int32.not_lt.mp hz
      simpa using Int32.le_iff_toInt_le.mp this
    show z.toInt = ((z.toInt.toNat : Nat) : Int)
    omega
  obtain ⟨hc0, hAr0⟩ := hsrc H hR
  have hts := C0.1.2.2.2.2
  have he : (zW g N σ μ)[b]? = some (zb g + b, .inl (g.2.1 kd, n1, .inl (μ b))) := by rw [zW_get hb.1, ← zent_arr hb hkd]
  have hc1 : H[zb g + b]? = some (vp_cell (g.2.1 kd) (n1, .inl (μ b))) := hR.1 b _ he
  obtain ⟨-, k0, hk0, cm0, hkk0⟩ := hAr0 n0 (fun j => .int (f j))
  obtain ⟨-, k1, hk1, cm1, hkk1⟩ := (C0.2.2.2.2.1.2 t0 _ hkt).1 n1 (fun j => .int (μ b j))
  obtain ⟨vm', X', step⟩ := X.arraycopy C0.1.1 C0.1.2.2.2.1 (hts _ hlk) (hts _ hA4.1) (hts _ hA4.2.1) (hts _ hA4.2.2) (src := a0) (dst := zb g + b) (cs := vp_cell c0 (n0, .inl f)) (cd := vp_cell (g.2.1 kd) (n1, .inl (μ b))) (srcPos := sp) (destPos := dp) (n := len) (by rw [hT]; exact hc0) (by rw [hT]; exact hc1)
    (fun _ h => by cases h) (fun _ h => by cases h) (fun h => by cases h) (fun h => by cases h) hk0 hk1 hkk0 hkk1 (by simp [hprim]) h1 h2 h3
    (by rw [nn sp h1, nn len h3]; show ¬ _ > ((arrV c0 n0 (fun j => .int (f j))).slots.size : Int); rw [arrV_size]; omega)
    (by rw [nn dp h2, nn len h3]; show ¬ _ > ((arrV (g.2.1 kd) n1 (fun j => .int (μ b j))).slots.size : Int); rw [arrV_size]; omega)
    (fun vm₁ _ i hi => by
      have e : (vp_cell c0 (n0, .inl f)).slots.getD (sp.toNatClampNeg + i) .null = .int (f (sp.toNatClampNeg + i)) := by
        show (arrV c0 n0 (fun j => .int (f j))).slots.getD _ _ = _
        rw [Array.getD_eq_getD_getElem?, arrV_read _ _ (by omega)]
        rfl
      refine ⟨?_, ?_⟩
      · rw [e]
        exact hfit i hi
      · rw [e]
        exact trivial)
    (g := F0 m pc ls (.int len :: .int dp :: .ref (zb g + b) :: .int sp :: .ref a0 :: st)) rfl (by rw [C0.1.2.2.1]; exact hl.1) (rest := st) rfl (by rw [C0.1.2.1]; exact hd) (by show 1 ≤ d + 1; omega) (by
      have e0 : nativeFrameWords "java/lang/System" "arraycopy" 5 + 11 ≤ 56 := by decide +kernel
      show 2 * 0 + (st.map fun v => v.category).sum + _ ≤ 64 * (d + 1)
      omega)
  have e1 : copied (vp_cell c0 (n0, .inl f)) (vp_cell (g.2.1 kd) (n1, .inl (μ b))) sp dp len = vp_cell (g.2.1 kd) (n1, .inl (va_cpy f (μ b) sp.toNatClampNeg dp.toNatClampNeg len.toNatClampNeg)) := va_copied (fun z => .int z) c0 (g.2.1 kd) f (μ b) h4
  rw [e1] at X' step
  have hlt : zb g + b < H.size := (Array.getElem?_eq_some_iff.mp hc1).1
  have hheap : ((T.setVm vm').setCell (zb g + b) (vp_cell (g.2.1 kd) (n1, .inl (va_cpy f (μ b) sp.toNatClampNeg dp.toNatClampNeg len.toNatClampNeg)))).heap = H.setIfInBounds (zb g + b) (vp_cell (g.2.1 kd) (n1, .inl (va_cpy f (μ b) sp.toNatClampNeg dp.toNatClampNeg len.toNatClampNeg))) := by rw [← hT]; rfl
  have oq : ∀ q : Nat, q ≠ zb g + b → (H.setIfInBounds (zb g + b) (vp_cell (g.2.1 kd) (n1, .inl (va_cpy f (μ b) sp.toNatClampNeg dp.toNatClampNeg len.toNatClampNeg))))[q]? = H[q]? := fun q hq => by simp [Array.getElem?_setIfInBounds, Ne.symm hq]
  have hz : (H.setIfInBounds (zb g + b) (vp_cell (g.2.1 kd) (n1, .inl (va_cpy f (μ b) sp.toNatClampNeg dp.toNatClampNeg len.toNatClampNeg)))).size = H.size := by simp
  have hR1 : zR g N σ (zupr μ b (va_cpy f (μ b) sp.toNatClampNeg dp.toNatClampNeg len.toNatClampNeg)) (H.setIfInBounds (zb g + b) (vp_cell (g.2.1 kd) (n1, .inl (va_cpy f (μ b) sp.toNatClampNeg dp.toNatClampNeg len.toNatClampNeg)))) := by
    refine zR_set hR hb.1 ?_ hz oq (fun _ _ => rfl) (fun q hq => zupr_ne μ _ hq)
    show va_at _ _ (_, zenr g (σ b) (zupr μ b _ b) b) _
    rw [zupr_self, zent_arr hb hkd]
    show (H.setIfInBounds _ _)[zb g + b]? = some _
    simp [Array.getElem?_setIfInBounds, hlt]
  obtain ⟨t, a1, b1⟩ := kk _ _ ls hR1 ⟨by rw [hz]; exact hS.1, fun q g1 g2 => by
      rw [oq q (fun e => g2 (by rw [e]; exact Nat.le_add_right _ _))]
      exact hS.2.1 q g1 g2, fun q hq => by
      rcases List.mem_append.mp hq with h | h
      · exact hS.2.2 q h
      · obtain ⟨z, -, hz⟩ := List.mem_map.mp h
        rw [← hz]
        exact Nat.le_add_right _ _⟩ hl _ hheap X'
  exact ⟨t, step t a1, b1⟩
theorem z_copyi (C0 : zC p s m args meth c g cc y nL ret) {idx d RC RS : Nat} (hRR : R = zrm (d + 1) RC RS) (hlk : Cond.methodLink y.cls idx arraycopyName ∈ ztbl) (hA4 : Cond.native arraycopyName ∈ ztbl ∧ Cond.static arraycopyName ∈ ztbl ∧ Cond.initialized "java/lang/System" ∈ ztbl)
    {n0 n1 a b : Nat} {μ1 : zM} (ha : zAr N a 20 n0) (hb : zAr N b 20 n1) {sp dp len : Int32} (hg : zcpg sp dp len n0 n1 = true) (hst : (st.map fun v => v.category).sum ≤ 8) (hm : μ1 = zcp μ a b sp dp len) (hd : decode cc pc = .ok (.invokestatic idx, 3)) (kk : Z p l e R s m args below meth c g Q nL N k n σ μ1 (pc + 3) lo st) :
    Z p l e R s m args below meth c g Q nL N k n σ μ pc lo (.int len :: .int dp :: .ref (zb g + b) :: .int sp :: .ref (zb g + a) :: st) :=
  z_copyG C0 hRR hlk hA4 (t0 := 0) (f := μ a) (c0 := g.2.1 20) hb (Or.inl rfl) rfl rfl (fun H hR => ⟨hR.1 a (zb g + a, .inl (g.2.1 20, n0, .inl (μ a))) (by rw [zW_get ha.1, ← zent_arr ha (Or.inl rfl)]), (C0.2.2.2.2.1.2 0 _ rfl).1⟩) hg (fun _ _ => rfl) hst hm hd kk
theorem z_copyb (C0 : zC p s m args meth c g cc y nL ret) {idx d RC RS : Nat} (hRR : R = zrm (d + 1) RC RS) (hlk : Cond.methodLink y.cls idx arraycopyName ∈ ztbl) (hA4 : Cond.native arraycopyName ∈ ztbl ∧ Cond.static arraycopyName ∈ ztbl ∧ Cond.initialized "java/lang/System" ∈ ztbl)
    {n0 n1 a b : Nat} {μ1 : zM} (ha : zAr N a 21 n0) (hb : zAr N b 21 n1) {sp dp len : Int32} (hg : zcpg sp dp len n0 n1 = true) (hg2 : zcpb μ a sp len = true) (hst : (st.map fun v => v.category).sum ≤ 8) (hm : μ1 = zcp μ a b sp dp len) (hd : decode cc pc = .ok (.invokestatic idx, 3)) (kk : Z p l e R s m args below meth c g Q nL N k n σ μ1 (pc + 3) lo st) :
    Z p l e R s m args below meth c g Q nL N k n σ μ pc lo (.int len :: .int dp :: .ref (zb g + b) :: .int sp :: .ref (zb g + a) :: st) :=
  z_copyG C0 hRR hlk hA4 (t0 := 1) (f := μ a) (c0 := g.2.1 21) hb (Or.inr rfl) rfl rfl (fun H hR => ⟨hR.1 a (zb g + a, .inl (g.2.1 21, n0, .inl (μ a))) (by rw [zW_get ha.1, ← zent_arr ha (Or.inr rfl)]), (C0.2.2.2.2.1.2 1 _ rfl).1⟩) hg (fun i hi => z01_fit (List.all_eq_true.mp hg2 i (List.mem_range.mpr hi))) hst hm hd kk
end ZCOPY
