theorem zR_set {g : zL} {N o : Nat} {σ σ' : Nat → Nat → Bool} {μ μ' : zM} {H H1 : Heap} (hR : zR g N σ μ H) (ho : o < N) (he : va_at g.1 zcls (zb g + o, zent g σ' μ' o) H1) (hz : H1.size = H.size) (oq : ∀ q : Nat, q ≠ zb g + o → H1[q]? = H[q]?) (hs : ∀ q, q ≠ o → σ' q = σ q) (hm : ∀ q, q ≠ o → μ' q = μ q) : zR g N σ' μ' H1 := by
  refine ⟨?_, by rw [hz]; exact hR.2.1, fun q hq => (oq q (by omega)).trans (hR.2.2 q hq)⟩
  have h := hR.1.set (e := zent g σ' μ' o) (zW_D g N σ μ) (zW_get ho) he oq
  rwa [zW_set rfl hs hm] at h
theorem zR_at {g : zL} {N o : Nat} {σ : Nat → Nat → Bool} {μ : zM} {H : Heap} (hR : zR g N σ μ H) (ho : o < N) : va_at g.1 zcls (zb g + o, zent g σ μ o) H := hR.1 o _ (zW_get ho)
section ZMEM
variable {p : Program} {l : Launch} {e : Env} {R : Room} {s : State} {m : MethodId} {args : Array Value} {below : List Frame} {meth : Method} {c : Code} {g : zL} {Q : State → Prop} {nL N k n : Nat} {σ : Nat → Nat → Bool} {μ : zM} {cc : ByteArray} {y : MethodName} {ret : Option FieldType} {pc : Nat} {lo : List (Nat × Value)} {st : List Value}
/-- any field read: what the tables say it is -/
theorem z_get (C0 : zC p s m args meth c g cc y nL ret) {o ci kf idx : Nat} {v : Value} (hk : zkd o = ci) (ho : o < N) (hf : zFld y.cls idx ci kf) (hv : zval (zb g) (σ o) (μ o) ci o kf = v) (hd : decode cc pc = .ok (.getfield idx, 3)) (kk : Z p l e R s m args below meth c g Q nL N k n σ μ (pc + 3) lo (v :: st)) :
    Z p l e R s m args below meth c g Q nL N k n σ μ pc lo (.ref (zb g + o) :: st) := by
  intro H locs ls hR hS hl
  obtain ⟨C, T, nf, ty0, f1, f2, f3, f4, f5, f6, f7, f8⟩ := hf
  have he : (zW g N σ μ)[o]? = some (zb g + o, .inr (ci, (List.range (znf ci)).map (zval (zb g) (σ o) (μ o) ci o))) := by rw [zW_get ho, ← zent_obj hk f4]
  refine va_get (tys := ztys g) (Ts := ztbl) (N := nf) C0.1.1 C0.1.2.1 C0.1.2.2.2.2 f6 C0.1.2.2.2.1 C0.2.2.2.2.1 hR.1 o he f1 kf f3 (C0.1.2.2.2.2 _ f5) (fun _ h => h) ?_ hd (kk H locs ls hR hS hl)
  rw [zfs_get (by rw [f2]; exact f3), hv]
theorem z_geti (C0 : zC p s m args meth c g cc y nL ret) {o ci kf idx : Nat} (hk : zkd o = ci) (ho : o < N) (hf : zFld y.cls idx ci kf) (hr : zrk ci kf = 0) (hd : decode cc pc = .ok (.getfield idx, 3)) (kk : Z p l e R s m args below meth c g Q nL N k n σ μ (pc + 3) lo (.int (μ o kf) :: st)) :
    Z p l e R s m args below meth c g Q nL N k n σ μ pc lo (.ref (zb g + o) :: st) := z_get C0 hk ho hf (by simp [zval, hr]) hd kk
theorem z_getr (C0 : zC p s m args meth c g cc y nL ret) {o ci kf idx b : Nat} (hT : zT N σ o ci) (hf : zFld y.cls idx ci kf) (hr : zrk ci kf = 1) (hx : 0 < zex ci) (hb : zFX o kf = b) (hd : decode cc pc = .ok (.getfield idx, 3)) (kk : Z p l e R s m args below meth c g Q nL N k n σ μ (pc + 3) lo (.ref (zb g + b) :: st)) :
    Z p l e R s m args below meth c g Q nL N k n σ μ pc lo (.ref (zb g + o) :: st) := z_get C0 hT.1 hT.2.2.1 hf (by
  have h1 : σ o kf = true := hT.2.2.2 o kf (Nat.le_refl _) (by omega)
  simp [zval, hr, h1, hb]) hd kk
theorem z_getd (C0 : zC p s m args meth c g cc y nL ret) {o ci kf idx : Nat} (hk : zkd o = ci) (ho : o < N) (hf : zFld y.cls idx ci kf) (hr : zrk ci kf = 2) (hn : 0 ≤ μ o kf) (hd : decode cc pc = .ok (.getfield idx, 3)) (kk : Z p l e R s m args below meth c g Q nL N k n σ μ (pc + 3) lo (.ref (zb g + (μ o kf).toNatClampNeg) :: st)) :
    Z p l e R s m args below meth c g Q nL N k n σ μ pc lo (.ref (zb g + o) :: st) := z_get C0 hk ho hf (by
  have h1 : ¬ μ o kf < 0 := Int32.not_lt.mpr hn
  simp [zval, hr, zref, h1]) hd kk
/-- a field that is not final is written -/
theorem z_put (C0 : zC p s m args meth c g cc y nL ret) {o ci kf idx : Nat} {w : Int32} {v : Value} {ty : FieldType} {μ1 : zM} (hk : zkd o = ci) (ho : o < N) (hf : zFld y.cls idx ci kf) (hfin : ∀ r : vw_C, zcls[ci]? = some r → (r.2.1 kf).2.2.2 = false ∧ parseFieldDescriptor (r.2.1 kf).2.2.1 = some ty) (hn : narrow ty v = v) (hfit : fits ty v = true)
    (hv : zval (zb g) (σ o) (upd (μ o) kf w) ci o kf = v) (hm : μ1 = zup μ o kf w) (hd : decode cc pc = .ok (.putfield idx, 3)) (kk : Z p l e R s m args below meth c g Q nL N k n σ μ1 (pc + 3) lo st) :
    Z p l e R s m args below meth c g Q nL N k n σ μ pc lo (v :: .ref (zb g + o) :: st) := by
  subst hm
  intro H locs ls hR hS hl
  obtain ⟨C, T, nf, ty0, f1, f2, f3, f4, f5, f6, f7, f8⟩ := hf
  have he : (zW g N σ μ)[o]? = some (zb g + o, .inr (ci, (List.range (znf ci)).map (zval (zb g) (σ o) (μ o) ci o))) := by rw [zW_get ho, ← zent_obj hk f4]
  have hK := C0.2.2.2.2.1
  have hts := C0.1.2.2.2.2
  have hap := va_apart (own := y.cls) hts f6 ty0 f8 f7 hK f1
  obtain ⟨r, h1, cell, q1, q2, q3, q4⟩ := hR.1 o _ he
  have hr : r = (C, T, nf) := Option.some.inj (h1.symm.trans f1)
  subst hr
  obtain ⟨hSl, hfc, kC, hkC, hkind⟩ := hK.1 ci _ f1
  obtain ⟨cf, kfc, fi, f, hi, hsl⟩ := hSl kf f3
  obtain ⟨hfin, hdesc⟩ := hfin _ f1
  have hlay := hts _ (f6 _ (u_in_lay f3))
  unfold u_lay at hlay
  rw [if_neg (by rw [hfin]; decide)] at hlay
  have hst := (u_facts hfc hkC (u_lays hts f6 f3) hi).1
  have h6 := u_store hfc hkC hkind hlay hi hdesc hn hfit
  refine W.putK C0.1.1 C0.1.2.1 (f := f) ⟨C0.1.2.2.2.1, hts _ f5, ⟨_, _, _, hi⟩, hst⟩ (by rw [q2]; exact h6) q1 q3 (by rw [hsl]; exact k2_hasslot (q4 kf f3)) rfl rfl hd fun H' e1 e2 e3 => ?_
  rw [hsl] at e1 ⊢
  refine kk H' _ ls (zR_set hR ho ?_ e2 e3 (fun _ _ => rfl) (fun q hq => zup_rne μ kf w hq)) (hS.put e2 e3 (Nat.le_add_right _ _)) hl
  show va_at _ _ (_, zenr g (σ o) (zup μ o kf w o) o) _
  rw [zup_row, zent_obj hk f4]
  refine ⟨_, f1, t_OB.to (V := updV (vp_V ((List.range (znf ci)).map (zval (zb g) (σ o) (μ o) ci o))) kf v) ⟨_, e1, q2, q3, t_set q4 hap f3 v⟩ (fun j _ => ?_)⟩
  rw [vp_updV_set (by rw [zlen, f2]; exact f3) v j]
  rw [zfs_set (s' := σ o) (r' := upd (μ o) kf w) (fun j hj hjk => by simp [zval, upd, hjk]) hv]
theorem z_puti (C0 : zC p s m args meth c g cc y nL ret) {o ci kf idx : Nat} {w : Int32} {μ1 : zM} (hk : zkd o = ci) (ho : o < N) (hf : zFld y.cls idx ci kf) (hfin : ∀ r : vw_C, zcls[ci]? = some r → (r.2.1 kf).2.2.2 = false ∧ parseFieldDescriptor (r.2.1 kf).2.2.1 = some .int) (hr : zrk ci kf = 0)
    (hm : μ1 = zup μ o kf w) (hd : decode cc pc = .ok (.putfield idx, 3)) (kk : Z p l e R s m args below meth c g Q nL N k n σ μ1 (pc + 3) lo st) :
    Z p l e R s m args below meth c g Q nL N k n σ μ pc lo (.int w :: .ref (zb g + o) :: st) := z_put C0 hk ho hf hfin rfl rfl (by simp [zval, hr, upd]) hm hd kk
theorem z_putb (C0 : zC p s m args meth c g cc y nL ret) {o ci kf idx : Nat} {w : Int32} {μ1 : zM} (hk : zkd o = ci) (ho : o < N) (hf : zFld y.cls idx ci kf) (hfin : ∀ r : vw_C, zcls[ci]? = some r → (r.2.1 kf).2.2.2 = false ∧ parseFieldDescriptor (r.2.1 kf).2.2.1 = some .boolean) (hr : zrk ci kf = 0) (hb : z01 w = true)
    (hm : μ1 = zup μ o kf w) (hd : decode cc pc = .ok (.putfield idx, 3)) (kk : Z p l e R s m args below meth c g Q nL N k n σ μ1 (pc + 3) lo st) :
    Z p l e R s m args below meth c g Q nL N k n σ μ pc lo (.int w :: .ref (zb g + o) :: st) := z_put C0 hk ho hf hfin (z01_nar hb) (by
  simp only [z01, Bool.or_eq_true, decide_eq_true_eq] at hb
  rcases hb with h | h <;> subst h <;> decide +kernel) (by simp [zval, hr, upd]) hm hd kk
/-- a reference field that may change: it keeps the offset -/
theorem z_putd (C0 : zC p s m args meth c g cc y nL ret) {o ci kf idx b : Nat} {w : Int32} {ty : FieldType} {μ1 : zM} (hk : zkd o = ci) (ho : o < N) (hf : zFld y.cls idx ci kf) (hfin : ∀ r : vw_C, zcls[ci]? = some r → (r.2.1 kf).2.2.2 = false ∧ parseFieldDescriptor (r.2.1 kf).2.2.1 = some ty) (hr : zrk ci kf = 2) (hty : ∀ q : Nat, narrow ty (.ref q) = .ref q ∧ fits ty (.ref q) = true) (hw : w = nI b) (hb : b < 2147483648)
    (hm : μ1 = zup μ o kf w) (hd : decode cc pc = .ok (.putfield idx, 3)) (kk : Z p l e R s m args below meth c g Q nL N k n σ μ1 (pc + 3) lo st) :
    Z p l e R s m args below meth c g Q nL N k n σ μ pc lo (.ref (zb g + b) :: .ref (zb g + o) :: st) := z_put C0 hk ho hf hfin (hty _).1 (hty _).2 (by
  have h1 : (nI b).toInt = (b : Int) := by
    rw [nI, Int32.toInt_ofNat_of_lt hb]
  have h2 : ¬ nI b < 0 := fun q => by
    have := Int32.lt_iff_toInt_lt.mp q
    rw [h1] at this
    simp at this
    omega
  have h3 : (nI b).toNatClampNeg = b := by
    show (nI b).toInt.toNat = b
    rw [h1]; rfl
  simp [zval, hr, upd, hw, zref, h2, h3]) hm hd kk
theorem z_iald (C0 : zC p s m args meth c g cc y nL ret) {b len j : Nat} {i : Int32} (hA : zAr N b 20 len) (hin : zin i len = true) (hj : i.toNatClampNeg = j) (hd : decode cc pc = .ok (.iaload, 1)) (kk : Z p l e R s m args below meth c g Q nL N k n σ μ (pc + 1) lo (.int (μ b j) :: st)) :
    Z p l e R s m args below meth c g Q nL N k n σ μ pc lo (.int i :: .ref (zb g + b) :: st) := by
  subst hj
  intro H locs ls hR hS hl
  have he : (zW g N σ μ)[b]? = some (zb g + b, .inl (g.2.1 20, len, .inl (μ b))) := by rw [zW_get hA.1, ← zent_arr hA (Or.inl rfl)]
  exact va_iald (tys := ztys g) C0.1.1 C0.1.2.1 C0.2.2.2.2.1 hR.1 b 0 he rfl (zin_vp hin) hd (kk H locs ls hR hS hl)
theorem z_bald (C0 : zC p s m args meth c g cc y nL ret) {b len j : Nat} {i : Int32} (hA : zAr N b 21 len) (hin : zin i len = true) (hj : i.toNatClampNeg = j) (hd : decode cc pc = .ok (.baload, 1)) (kk : Z p l e R s m args below meth c g Q nL N k n σ μ (pc + 1) lo (.int (μ b j) :: st)) :
    Z p l e R s m args below meth c g Q nL N k n σ μ pc lo (.int i :: .ref (zb g + b) :: st) := by
  subst hj
  intro H locs ls hR hS hl
  have he : (zW g N σ μ)[b]? = some (zb g + b, .inl (g.2.1 21, len, .inl (μ b))) := by rw [zW_get hA.1, ← zent_arr hA (Or.inr rfl)]
  exact va_zald (tys := ztys g) C0.1.1 C0.1.2.1 C0.2.2.2.2.1 hR.1 b 1 he rfl (zin_vp hin) hd (kk H locs ls hR hS hl)
theorem z_iast (C0 : zC p s m args meth c g cc y nL ret) {b len j : Nat} {i x : Int32} {μ1 : zM} (hA : zAr N b 20 len) (hin : zin i len = true) (hj : i.toNatClampNeg = j) (hm : μ1 = zup μ b j x) (hd : decode cc pc = .ok (.iastore, 1)) (kk : Z p l e R s m args below meth c g Q nL N k n σ μ1 (pc + 1) lo st) :
    Z p l e R s m args below meth c g Q nL N k n σ μ pc lo (.int x :: .int i :: .ref (zb g + b) :: st) := by
  subst hj
  subst hm
  intro H locs ls hR hS hl
  have he : (zW g N σ μ)[b]? = some (zb g + b, .inl (g.2.1 20, len, .inl (μ b))) := by rw [zW_get hA.1, ← zent_arr hA (Or.inl rfl)]
  have hat := hR.1 b _ he
  have hK := C0.2.2.2.2.1
  refine W.iast C0.1.1 C0.1.2.1 hat ((hK.2 0 _ rfl).1 len (fun j => .int (μ b j))) (fun q => by cases q) (by show ¬ (i < 0 ∨ (arrV _ _ _).slots.size ≤ _); rw [arrV_size]; exact zin_vp hin) rfl rfl hd fun H1 e z oq => ?_
  refine kk H1 _ ls (zR_set hR hA.1 ?_ z oq (fun _ _ => rfl) (fun q hq => zup_rne μ _ x hq)) (hS.put z oq (Nat.le_add_right _ _)) hl
  show va_at _ _ (_, zenr g (σ b) (zup μ b _ x b) b) _
  rw [zup_row, zent_arr hA (Or.inl rfl)]
  show H1[zb g + b]? = some (vp_cell _ _)
  rw [e]
  rw [vp_cell_i, vp_cell_i, arrV_store]
  congr 2
  funext q
  by_cases hq : q = i.toNatClampNeg
  · subst hq
    simp [updV, upd]
  · simp [updV, upd, hq]
theorem z_bast (C0 : zC p s m args meth c g cc y nL ret) {b len j : Nat} {i x : Int32} {μ1 : zM} (hA : zAr N b 21 len) (hin : zin i len = true) (hj : i.toNatClampNeg = j) (hm : μ1 = zup μ b j (znb x)) (hd : decode cc pc = .ok (.bastore, 1)) (kk : Z p l e R s m args below meth c g Q nL N k n σ μ1 (pc + 1) lo st) :
    Z p l e R s m args below meth c g Q nL N k n σ μ pc lo (.int x :: .int i :: .ref (zb g + b) :: st) := by
  subst hj
  subst hm
  intro H locs ls hR hS hl
  have he : (zW g N σ μ)[b]? = some (zb g + b, .inl (g.2.1 21, len, .inl (μ b))) := by rw [zW_get hA.1, ← zent_arr hA (Or.inr rfl)]
  have hat := hR.1 b _ he
  have hK := C0.2.2.2.2.1
  refine W.zast C0.1.1 C0.1.2.1 hat ((hK.2 1 _ rfl).1 len (fun j => .int (μ b j))) (fun q => by cases q) (by show ¬ (i < 0 ∨ (arrV _ _ _).slots.size ≤ _); rw [arrV_size]; exact zin_vp hin) rfl rfl hd fun H1 e z oq => ?_
  refine kk H1 _ ls (zR_set hR hA.1 ?_ z oq (fun _ _ => rfl) (fun q hq => zup_rne μ _ _ hq)) (hS.put z oq (Nat.le_add_right _ _)) hl
  show va_at _ _ (_, zenr g (σ b) (zup μ b _ (znb x) b) b) _
  rw [zup_row, zent_arr hA (Or.inr rfl)]
  show H1[zb g + b]? = some (vp_cell _ _)
  rw [e]
  rw [vp_cell_i, vp_cell_i, arrV_store]
  congr 2
  funext q
  by_cases hq : q = i.toNatClampNeg
  · subst hq
    simp [updV, upd, znb, vp_nar]
    try rfl
  · simp [updV, upd, hq]
theorem z_alen (C0 : zC p s m args meth c g cc y nL ret) {b kd len : Nat} {v : Int32} (hA : zAr N b kd len) (hk : 20 ≤ kd) (hk2 : kd ≤ 25) (hv : Int32.ofNat len = v) (hd : decode cc pc = .ok (.arraylength, 1)) (kk : Z p l e R s m args below meth c g Q nL N k n σ μ (pc + 1) lo (.int v :: st)) :
    Z p l e R s m args below meth c g Q nL N k n σ μ pc lo (.ref (zb g + b) :: st) := by
  intro H locs ls hR hS hl
  by_cases h21 : kd = 20 ∨ kd = 21
  · have he : (zW g N σ μ)[b]? = some (zb g + b, .inl (g.2.1 kd, len, .inl (μ b))) := by rw [zW_get hA.1, ← zent_arr hA h21]
    rcases h21 with rfl | rfl
    · exact va_alen (tys := ztys g) C0.1.1 C0.1.2.1 C0.2.2.2.2.1 hR.1 b 0 he rfl hv hd (kk H locs ls hR hS hl)
    · exact va_alen (tys := ztys g) C0.1.1 C0.1.2.1 C0.2.2.2.2.1 hR.1 b 1 he rfl hv hd (kk H locs ls hR hS hl)
  · have h22 : 22 ≤ kd := by omega
    have he := (zW_get (g := g) (σ := σ) (μ := μ) hA.1)
    rw [show zent g σ μ b = _ from zent_ra hA h22] at he
    have ht : kd = 22 ∨ kd = 23 ∨ kd = 24 ∨ kd = 25 := by omega
    rcases ht with rfl | rfl | rfl | rfl
    · exact va_alen (tys := ztys g) C0.1.1 C0.1.2.1 C0.2.2.2.2.1 hR.1 b 2 he rfl hv hd (kk H locs ls hR hS hl)
    · exact va_alen (tys := ztys g) C0.1.1 C0.1.2.1 C0.2.2.2.2.1 hR.1 b 3 he rfl hv hd (kk H locs ls hR hS hl)
    · exact va_alen (tys := ztys g) C0.1.1 C0.1.2.1 C0.2.2.2.2.1 hR.1 b 4 he rfl hv hd (kk H locs ls hR hS hl)
    · exact va_alen (tys := ztys g) C0.1.1 C0.1.2.1 C0.2.2.2.2.1 hR.1 b 5 he rfl hv hd (kk H locs ls hR hS hl)
/-- a place of an array of references, as the tables have it -/
theorem z_aald (C0 : zC p s m args meth c g cc y nL ret) {b kd len x : Nat} {i : Int32} (hA : zAr N b kd len) (hk : 22 ≤ kd) (hk2 : kd ≤ 25) (hin : zin i len = true) (hs : σ b i.toNatClampNeg = true) (hx : zFX b i.toNatClampNeg = x) (hd : decode cc pc = .ok (.aaload, 1)) (kk : Z p l e R s m args below meth c g Q nL N k n σ μ (pc + 1) lo (.ref (zb g + x) :: st)) :
    Z p l e R s m args below meth c g Q nL N k n σ μ pc lo (.int i :: .ref (zb g + b) :: st) := by
  intro H locs ls hR hS hl
  have he := hR.1 b _ (zW_get (g := g) (σ := σ) (μ := μ) hA.1)
  rw [show zent g σ μ b = _ from zent_ra hA hk] at he
  have hat : H[zb g + b]? = some (arrV (g.2.1 kd) len (fun j => va_rf (if σ b j = true then some (zb g + zFX b j) else none))) := he
  have hv : (arrV (g.2.1 kd) len (fun j => va_rf (if σ b j = true then some (zb g + zFX b j) else none))).slots[i.toNatClampNeg]? = some (.ref (zb g + x)) := by
    rw [arrV_read _ _ (zin_lt hin)]
    simp [hs, hx, va_rf]
  have hii : ¬ (i < 0 ∨ (arrV (g.2.1 kd) len (fun j => va_rf (if σ b j = true then some (zb g + zFX b j) else none))).slots.size ≤ i.toNatClampNeg) := by rw [arrV_size]; exact zin_vp hin
  have hK := C0.2.2.2.2.1
  have ht : kd = 22 ∨ kd = 23 ∨ kd = 24 ∨ kd = 25 := by omega
  rcases ht with rfl | rfl | rfl | rfl
  · exact W.aald (ty := .object RX1) C0.1.1 C0.1.2.1 hat ((hK.2 2 _ rfl).1 len _) rfl (fun q => by cases q) hii hv rfl rfl hd (kk H locs ls hR hS hl)
  · exact W.aald (ty := .object RX6) C0.1.1 C0.1.2.1 hat ((hK.2 3 _ rfl).1 len _) rfl (fun q => by cases q) hii hv rfl rfl hd (kk H locs ls hR hS hl)
  · exact W.aald (ty := .object RX8) C0.1.1 C0.1.2.1 hat ((hK.2 4 _ rfl).1 len _) rfl (fun q => by cases q) hii hv rfl rfl hd (kk H locs ls hR hS hl)
  · exact W.aald (ty := .array .int) C0.1.1 C0.1.2.1 hat ((hK.2 5 _ rfl).1 len _) rfl (fun q => by cases q) hii hv rfl rfl hd (kk H locs ls hR hS hl)
end ZMEM
