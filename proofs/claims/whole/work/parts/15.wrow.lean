section ZWROW
variable {p : Program} {l : Launch} {e : Env} {R : Room} {s : State} {m : MethodId} {args : Array Value} {below : List Frame} {meth : Method} {c : Code} {g : zL} {Q : State → Prop} {nL N k n : Nat} {σ : Nat → Nat → Bool} {μ : zM} {cc : ByteArray} {y : MethodName} {ret : Option FieldType} {pc : Nat} {lo : List (Nat × Value)} {st : List Value}
/-- the machine's copy out of a static row -/
theorem z_copyT (C0 : zC p s m args meth c g cc y nL ret) {idx d RC RS : Nat} (hRR : R = zrm (d + 1) RC RS) (hlk : Cond.methodLink y.cls idx arraycopyName ∈ ztbl) (hA4 : Cond.native arraycopyName ∈ ztbl ∧ Cond.static arraycopyName ∈ ztbl ∧ Cond.initialized "java/lang/System" ∈ ztbl)
    {kd t0 n0 n1 b a0 : Nat} {f : Nat → Int32} {ty : FieldType} {μ1 : zM} (hb : zAr N b kd n1) (hkd : kd = 20 ∨ kd = 21) (hkt : (ztys g)[t0]? = some (g.2.1 kd, ty)) (hprim : refKind ty = false)
    (hsrc : va_T ty a0 n0 (fun j => .int (f j)) (zA g) s g.2.2.2.1) {sp dp len : Int32} (hg : zcpg sp dp len n0 n1 = true) (hfit : ∀ i, i < len.toNatClampNeg → fits ty (.int (f (sp.toNatClampNeg + i))) = true) (hst : (st.map fun v => v.category).sum ≤ 8)
    (hm : μ1 = zupr μ b (va_cpy f (μ b) sp.toNatClampNeg dp.toNatClampNeg len.toNatClampNeg)) (hd : decode cc pc = .ok (.invokestatic idx, 3)) (kk : Z p l e R s m args below meth c g Q nL N k n σ μ1 (pc + 3) lo st) :
    Z p l e R s m args below meth c g Q nL N k n σ μ pc lo (.int len :: .int dp :: .ref (zb g + b) :: .int sp :: .ref a0 :: st) := by
  subst hRR; subst hm
  obtain ⟨h1, h2, h3, h4, h5⟩ := zcpg_of hg
  intro H locs ls hR hS hl T hT X
  have nn : ∀ z : Int32, ¬ z < 0 → z.toInt = (z.toNatClampNeg : Int) := by
    intro z hz
    have hz0 : (0 : Int) ≤ z.toInt := by
      have := Int32.not_lt.mp hz
      simpa using Int32.le_iff_toInt_le.mp this
    show z.toInt = ((z.toInt.toNat : Nat) : Int)
    omega
  obtain ⟨cs, hs1, hs2, hs3, hs4, hs5, hs6, hs7⟩ := hsrc
  have hc0 : H[a0]? = some cs := (z_old hR hs7).trans hs1
  have hts := C0.1.2.2.2.2
  have he : (zW g N σ μ)[b]? = some (zb g + b, .inl (g.2.1 kd, n1, .inl (μ b))) := by rw [zW_get hb.1, ← zent_arr hb hkd]
  have hc1 : H[zb g + b]? = some (vp_cell (g.2.1 kd) (n1, .inl (μ b))) := hR.1 b _ he
  obtain ⟨hs0, k0, hk0, cm0, hkk0⟩ := hs2
  obtain ⟨-, k1, hk1, cm1, hkk1⟩ := (C0.2.2.2.2.1.2 t0 _ hkt).1 n1 (fun j => .int (μ b j))
  obtain ⟨vm', X', step⟩ := X.arraycopy C0.1.1 C0.1.2.2.2.1 (hts _ hlk) (hts _ hA4.1) (hts _ hA4.2.1) (hts _ hA4.2.2) (src := a0) (dst := zb g + b) (cs := cs) (cd := vp_cell (g.2.1 kd) (n1, .inl (μ b))) (srcPos := sp) (destPos := dp) (n := len) (by rw [hT]; exact hc0) (by rw [hT]; exact hc1)
    hs0 (fun _ h => by cases h) hs3 (fun h => by cases h) hk0 hk1 hkk0 hkk1 (by simp [hprim]) h1 h2 h3
    (by rw [nn sp h1, nn len h3]; omega)
    (by rw [nn dp h2, nn len h3]; show ¬ _ > ((arrV (g.2.1 kd) n1 (fun j => .int (μ b j))).slots.size : Int); rw [arrV_size]; omega)
    (fun vm₁ _ i hi => by
      have e : cs.slots.getD (sp.toNatClampNeg + i) .null = .int (f (sp.toNatClampNeg + i)) := by
        rw [Array.getD_eq_getD_getElem?, hs6 _ (by omega)]
        rfl
      refine ⟨?_, ?_⟩
      · rw [e]
        exact hfit i hi
      · rw [e]
        exact trivial)
    (g := F0 m pc ls (.int len :: .int dp :: .ref (zb g + b) :: .int sp :: .ref a0 :: st)) rfl (by rw [C0.1.2.2.1]; exact hl.1) (rest := st) rfl (by rw [C0.1.2.1]; exact hd) (by show 1 ≤ d + 1; omega) (by
      have e0 : nativeFrameWords "java/lang/System" "arraycopy" 5 + 11 ≤ 56 := by decide +kernel
      show 2 * 0 + (st.map fun v => v.category).sum + _ ≤ 64 * (d + 1)
      omega)
  have e1 : copied cs (vp_cell (g.2.1 kd) (n1, .inl (μ b))) sp dp len = vp_cell (g.2.1 kd) (n1, .inl (va_cpy f (μ b) sp.toNatClampNeg dp.toNatClampNeg len.toNatClampNeg)) := va_copiedX (fun z => .int z) cs (g.2.1 kd) f (μ b) hs6 h4
  rw [e1] at X' step
  have hlt : zb g + b < H.size := (Array.getElem?_eq_some_iff.mp hc1).1
  have hheap : ((T.setVm vm').setCell (zb g + b) (vp_cell (g.2.1 kd) (n1, .inl (va_cpy f (μ b) sp.toNatClampNeg dp.toNatClampNeg len.toNatClampNeg)))).heap = H.setIfInBounds (zb g + b) (vp_cell (g.2.1 kd) (n1, .inl (va_cpy f (μ b) sp.toNatClampNeg dp.toNatClampNeg len.toNatClampNeg))) := by rw [← hT]; rfl
  have oq : ∀ q : Nat, q ≠ zb g + b → (H.setIfInBounds (zb g + b) (vp_cell (g.2.1 kd) (n1, .inl (va_cpy f (μ b) sp.toNatClampNeg dp.toNatClampNeg len.toNatClampNeg))))[q]? = H[q]? := fun q hq => by simp [Array.getElem?_setIfInBounds, Ne.symm hq]
  have hz : (H.setIfInBounds (zb g + b) (vp_cell (g.2.1 kd) (n1, .inl (va_cpy f (μ b) sp.toNatClampNeg dp.toNatClampNeg len.toNatClampNeg)))).size = H.size := by simp
  have hR1 : zR g N σ (zupr μ b (va_cpy f (μ b) sp.toNatClampNeg dp.toNatClampNeg len.toNatClampNeg)) (H.setIfInBounds (zb g + b) (vp_cell (g.2.1 kd) (n1, .inl (va_cpy f (μ b) sp.toNatClampNeg dp.toNatClampNeg len.toNatClampNeg)))) := by
    refine zR_set hR hb.1 ?_ hz oq (fun _ _ => rfl) (fun q hq => zupr_ne μ _ hq)
    show va_at _ _ (_, zenr g (σ b) (zupr μ b _ b) b) _
    rw [zupr_self, zent_arr hb hkd]
    show (H.setIfInBounds _ _)[zb g + b]? = some _
    simp [Array.getElem?_setIfInBounds, hlt]
  obtain ⟨t, a1, b1⟩ := kk _ _ ls hR1 ⟨by rw [hz]; exact hS.1, fun q g1 g2 => by
      rw [oq q (fun e => g2 (by rw [e]; exact Nat.le_add_right _ _))]
      exact hS.2.1 q g1 g2, fun q hq => by
      rcases List.mem_append.mp hq with h | h
      · exact hS.2.2 q h
      · obtain ⟨z, -, hz⟩ := List.mem_map.mp h
        rw [← hz]
        exact Nat.le_add_right _ _⟩ hl _ hheap X'
  exact ⟨t, step t a1, b1⟩
theorem z_aloadw_n (C0 : zC p s m args meth c g cc y nL ret) {z : Fin 4} {i : Nat} {κ : zK} {r : Option Nat} (hd : decode cc pc = .ok (.aload_n z, 1)) (hi : (z : Nat) = i) (j : Nat) (hj : lo[j]? = some (i, zoptW κ r)) (kk : Z p l e R s m args below meth c g Q nL N k n σ μ (pc + 1) lo (zoptW κ r :: st)) : Z p l e R s m args below meth c g Q nL N k n σ μ pc lo st := by
  cases r with
  | none => exact fun H locs ls hR hS hl => lv_aload_nN C0.1.1 C0.1.2.1 hd hi (lv_at hl j hj) (kk H locs ls hR hS hl)
  | some a => exact z_aload_n C0 hd hi j hj kk
theorem z_aloadw (C0 : zC p s m args meth c g cc y nL ret) {i : Nat} {κ : zK} {r : Option Nat} (hd : decode cc pc = .ok (.aload i, 2)) (j : Nat) (hj : lo[j]? = some (i, zoptW κ r)) (kk : Z p l e R s m args below meth c g Q nL N k n σ μ (pc + 2) lo (zoptW κ r :: st)) : Z p l e R s m args below meth c g Q nL N k n σ μ pc lo st := by
  cases r with
  | none => exact fun H locs ls hR hS hl => lv_aloadN C0.1.1 C0.1.2.1 hd (lv_at hl j hj) (kk H locs ls hR hS hl)
  | some a => exact z_aload C0 hd j hj kk
theorem z_astorew_n (C0 : zC p s m args meth c g cc y nL ret) {z : Fin 4} {i : Nat} {κ : zK} {r : Option Nat} {lo1 : List (Nat × Value)} (hd : decode cc pc = .ok (.astore_n z, 1)) (hi : (z : Nat) = i) (hn : i < nL) (hf : (i, zoptW κ r) :: lo.filter (fun q => !(q.1 == i) && !(q.1 + 1 == i && q.2.category == 2)) = lo1) (kk : Z p l e R s m args below meth c g Q nL N k n σ μ (pc + 1) lo1 st) : Z p l e R s m args below meth c g Q nL N k n σ μ pc lo (zoptW κ r :: st) := by
  cases r with
  | none => exact fun H locs ls hR hS hl => lv_astore_nN C0.1.1 C0.1.2.1 hd hi hl hn hf (fun ls1 hl1 => kk H locs ls1 hR hS hl1)
  | some a => exact z_astore_n C0 hd hi hn hf kk
theorem z_astorew (C0 : zC p s m args meth c g cc y nL ret) {i : Nat} {κ : zK} {r : Option Nat} {lo1 : List (Nat × Value)} (hd : decode cc pc = .ok (.astore i, 2)) (hn : i < nL) (hf : (i, zoptW κ r) :: lo.filter (fun q => !(q.1 == i) && !(q.1 + 1 == i && q.2.category == 2)) = lo1) (kk : Z p l e R s m args below meth c g Q nL N k n σ μ (pc + 2) lo1 st) : Z p l e R s m args below meth c g Q nL N k n σ μ pc lo (zoptW κ r :: st) := by
  cases r with
  | none => exact fun H locs ls hR hS hl => lv_astoreN C0.1.1 C0.1.2.1 hd hl hn hf (fun ls1 hl1 => kk H locs ls1 hR hS hl1)
  | some a => exact z_astore C0 hd hn hf kk
theorem z_ifnullw (C0 : zC p s m args meth c g cc y nL ret) {κ : zK} {r : Option Nat} {off : Int} (tgt : Nat) (hd : decode cc pc = .ok (.ifnull off, 3)) (ht : (pc : Int) + off = (tgt : Int)) (kt : r = none → Z p l e R s m args below meth c g Q nL N k n σ μ tgt lo st) (kf : ∀ w, r = some w → Z p l e R s m args below meth c g Q nL N k n σ μ (pc + 3) lo st) : Z p l e R s m args below meth c g Q nL N k n σ μ pc lo (zoptW κ r :: st) := by
  cases r with
  | none => exact z_ifnullN C0 tgt hd ht (kt rfl)
  | some w => exact z_ifnull C0 hd (kf w rfl)
theorem z_ifnonnullw (C0 : zC p s m args meth c g cc y nL ret) {κ : zK} {r : Option Nat} {off : Int} (tgt : Nat) (hd : decode cc pc = .ok (.ifnonnull off, 3)) (ht : (pc : Int) + off = (tgt : Int)) (kt : ∀ w, r = some w → Z p l e R s m args below meth c g Q nL N k n σ μ tgt lo st) (kf : r = none → Z p l e R s m args below meth c g Q nL N k n σ μ (pc + 3) lo st) : Z p l e R s m args below meth c g Q nL N k n σ μ pc lo (zoptW κ r :: st) := by
  cases r with
  | none => exact z_ifnonnullN C0 hd (kf rfl)
  | some w => exact z_ifnonnull C0 tgt hd ht (kt w rfl)
theorem z_acmp_eqW (C0 : zC p s m args meth c g cc y nL ret) {κ : zK} {i j : Nat} {off : Int} (tgt : Nat) (hd : decode cc pc = .ok (.if_acmp .eq off, 3)) (ht : (pc : Int) + off = (tgt : Int)) (hinj : ∀ i j, i < 30 → j < 30 → kad κ i = kad κ j → i = j) (hi : i < 30) (hj : j < 30) (kt : i = j → Z p l e R s m args below meth c g Q nL N k n σ μ tgt lo st) (kf : ¬ i = j → Z p l e R s m args below meth c g Q nL N k n σ μ (pc + 3) lo st) : Z p l e R s m args below meth c g Q nL N k n σ μ pc lo (.ref (kad κ j) :: .ref (kad κ i) :: st) := fun H locs ls hR hS hl =>
  lv_acmp_eq (rx := some (kad κ i)) (ry := some (kad κ j)) C0.1.1 C0.1.2.1 hd ht (fun q => kt (hinj i j hi hj (Option.some.inj q)) H locs ls hR hS hl) (fun q => kf (fun z => q (by rw [z])) H locs ls hR hS hl)
theorem z_acmp_neW (C0 : zC p s m args meth c g cc y nL ret) {κ : zK} {i j : Nat} {off : Int} (tgt : Nat) (hd : decode cc pc = .ok (.if_acmp .ne off, 3)) (ht : (pc : Int) + off = (tgt : Int)) (hinj : ∀ i j, i < 30 → j < 30 → kad κ i = kad κ j → i = j) (hi : i < 30) (hj : j < 30) (kt : ¬ i = j → Z p l e R s m args below meth c g Q nL N k n σ μ tgt lo st) (kf : i = j → Z p l e R s m args below meth c g Q nL N k n σ μ (pc + 3) lo st) : Z p l e R s m args below meth c g Q nL N k n σ μ pc lo (.ref (kad κ j) :: .ref (kad κ i) :: st) := fun H locs ls hR hS hl =>
  lv_acmp_ne (rx := some (kad κ i)) (ry := some (kad κ j)) C0.1.1 C0.1.2.1 hd ht (fun q => kt (fun z => q (by rw [z])) H locs ls hR hS hl) (fun q => kf (hinj i j hi hj (Option.some.inj q)) H locs ls hR hS hl)
end ZWROW
def zgw (w : Nat) : Bool := decide (w < 30)
theorem zgw_of {w : Nat} (h : zgw w = true) : w < 30 := of_decide_eq_true h
def zcpF (μ : zM) (b : Nat) (sp dp n : Int32) : zM := zupr μ b (va_cpy (fun j => zATF.getD j 0) (μ b) sp.toNatClampNeg dp.toNatClampNeg n.toNatClampNeg)
