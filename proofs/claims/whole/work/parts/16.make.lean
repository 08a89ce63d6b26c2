/-! MAKING OBJECTS: the constructors lay their cells one behind another; the cell that comes next is cell N -/
theorem zR_grow {g : zL} {N c : Nat} {σ σ' : Nat → Nat → Bool} {μ μ' : zM} {H H1 : Heap} (hR : zR g N σ μ H) (hz : H1.size = H.size + c) (ho : ∀ q : Nat, q < H.size → H1[q]? = H[q]?) (hn : ∀ o, N ≤ o → o < N + c → va_at g.1 zcls (zb g + o, zent g σ' μ' o) H1)
    (hs : ∀ q, q < N → σ' q = σ q) (hm : ∀ q, q < N → μ' q = μ q) : zR g (N + c) σ' μ' H1 := by
  refine ⟨fun k q hk => ?_, by rw [hz, hR.2.1]; omega, fun q hq => (ho q (by rw [hR.2.1]; omega)).trans (hR.2.2 q hq)⟩
  have h1 := zW_at hk
  rw [zW_get h1.1] at hk
  cases hk
  by_cases hkN : k < N
  · have h2 := hR.1 k _ (zW_get hkN)
    have h3 : zent g σ' μ' k = zent g σ μ k := by
      show zenr g (σ' k) (μ' k) k = zenr g (σ k) (μ k) k
      rw [hs k hkN, hm k hkN]
    rw [h3]
    exact h2.kept (ho _ (by rw [hR.2.1]; show zb g + k < _; omega))
  · exact hn k (by omega) h1.1
theorem va_S_grow {A : Nat → Prop} {H0 H H1 : Heap} {locs : List Loc} (h : va_S A H0 H locs) (hz : H.size ≤ H1.size) (ho : ∀ q : Nat, q < H.size → H1[q]? = H[q]?) : va_S A H0 H1 locs :=
  ⟨Nat.le_trans h.1 hz, fun q h1 h2 => (ho q (Nat.lt_of_lt_of_le h1 h.1)).trans (h.2.1 q h1 h2), h.2.2⟩
theorem zrk_le (ci k : Nat) : zrk ci k ≤ 2 := by
  have h : zRKt.all (fun l => l.all (fun x => decide (x ≤ 2))) = true := by decide
  unfold zrk
  rw [List.getD_eq_getElem?_getD, List.getD_eq_getElem?_getD]
  rcases h1 : zRKt[ci]? with _ | l
  · simp
  · rw [Option.getD_some]
    rcases h2 : l[k]? with _ | x
    · simp
    · rw [Option.getD_some]
      have h3 := List.all_eq_true.mp h l (List.mem_of_getElem? h1)
      exact of_decide_eq_true (List.all_eq_true.mp h3 x (List.mem_of_getElem? h2))
def znew (μ : zM) (o ci : Nat) : zM := zupr μ o (fun j => if zrk ci j = 2 then -1 else 0)
def zσl (L : List (Nat × Nat)) : Nat → Nat → Bool := fun o k => match L.find? (fun q => q.1 == o) with
  | some q => decide (k < q.2)
  | none => true
theorem arrV_same {c : ClassId} {n : Nat} {f f' : Nat → Value} (h : ∀ j, j < n → f j = f' j) : arrV c n f = arrV c n f' := by
  unfold arrV
  have : (fun j : Fin n => f j.val) = fun j : Fin n => f' j.val := funext fun j => h j.val j.isLt
  rw [this]
theorem vr_outer0 (c : ClassId) (N h0 : Nat) : ∀ i : Nat, Jvm.Free.Multi.outerC c N h0 i = arrV c N (fun j => va_rf (if j < i then some (h0 + 1 + j) else none))
  | 0 => by
    show ({ cls := c, slots := Array.replicate N .null, vm := .none } : Cell) = _
    rw [arrV_new]
    exact arrV_same fun j _ => by simp [va_rf]
  | i + 1 => by
    show (Jvm.Free.Multi.outerC c N h0 i).setSlot i (.ref (h0 + 1 + i)) = _
    rw [vr_outer0 c N h0 i, arrV_store]
    refine arrV_same fun j _ => ?_
    by_cases e : j = i
    · subst e
      simp [updV, va_rf]
    · by_cases h : j < i
      · simp [updV, e, h, Nat.lt_succ_of_lt h]
      · simp [updV, e, h, show ¬ j < i + 1 by omega]
section ZMAKE
variable {p : Program} {l : Launch} {e : Env} {R : Room} {s : State} {m : MethodId} {args : Array Value} {below : List Frame} {meth : Method} {c : Code} {g : zL} {Q : State → Prop} {nL N k n : Nat} {σ : Nat → Nat → Bool} {μ : zM} {cc : ByteArray} {y : MethodName} {ret : Option FieldType} {pc : Nat} {lo : List (Nat × Value)} {st : List Value}
theorem z_sig {σ' : Nat → Nat → Bool} (h : ∀ o, o < N → ∀ i, (zkd o < 20 → i < znf (zkd o) → zrk (zkd o) i = 1 → σ' o i = σ o i) ∧ (22 ≤ zkd o → σ' o i = σ o i)) (kk : Z p l e R s m args below meth c g Q nL N k n σ' μ pc lo st) : Z p l e R s m args below meth c g Q nL N k n σ μ pc lo st := by
  intro H locs ls hR hS hl
  have e0 : zW g N σ μ = zW g N σ' μ := by
    unfold zW
    refine List.map_congr_left fun o ho => ?_
    have ho := List.mem_range.mp ho
    refine congrArg (fun x => (zb g + o, x)) ?_
    show zenr g (σ o) (μ o) o = zenr g (σ' o) (μ o) o
    unfold zenr
    by_cases h1 : zkd o < 20
    · rw [if_pos h1, if_pos h1]
      refine congrArg (fun x => Sum.inr (zkd o, x)) (List.map_congr_left fun i hi => ?_)
      have hi := List.mem_range.mp hi
      unfold zval
      by_cases h2 : zrk (zkd o) i = 1
      · rw [(h o ho i).1 h1 hi h2]
      · simp [h2]
    · rw [if_neg h1, if_neg h1]
      by_cases h2 : zkd o < 22
      · rw [if_pos h2, if_pos h2]
      · rw [if_neg h2, if_neg h2]
        have : σ' o = σ o := funext fun i => (h o ho i).2 (by omega)
        rw [this]
  exact kk H locs ls ⟨by rw [← e0]; exact hR.1, hR.2⟩ hS hl
theorem z_newo (C0 : zC p s m args meth c g cc y nL ret) {ci idx : Nat} {σ' : Nat → Nat → Bool} {C : String} {T : u_T} {nf d RC RS : Nat} {ty0 : Nat → FieldType} (hRR : R = zrm d RC RS) (hc : zCls ci C T nf ty0) (hk : zkd N = ci) (hl : Cond.classLink y.cls idx C ∈ ztbl) (hi : Cond.instantiable C nf ∈ ztbl) (hini : Cond.initialized C ∈ ztbl)
    (hd0 : ∀ j, j < nf → (zrk ci j = 0 → defaultValue (ty0 j) = .int 0) ∧ (¬ zrk ci j = 0 → defaultValue (ty0 j) = .null)) (hσ : ∀ j, j < nf → zrk ci j = 1 → σ' N j = false) (hs : ∀ q, q < N → σ' q = σ q) (hcc : k + 1 ≤ RC) (hss : n + nf ≤ RS) (hd : decode cc pc = .ok (.new idx, 3))
    (kk : Z p l e R s m args below meth c g Q nL (N + 1) (k + 1) (n + nf) σ' (znew μ N ci) (pc + 3) lo (.ref (zb g + N) :: st)) : Z p l e R s m args below meth c g Q nL N k n σ μ pc lo st := by
  subst hRR
  intro H locs ls hR hS hl9
  obtain ⟨f1, f2, f4, f6, f7, f8⟩ := hc
  have hts := C0.1.2.2.2.2
  have hKn := C0.2.2.2.2.1.1 ci _ f1
  refine W.newcK C0.1.1 C0.1.2.1 C0.1.2.2.2.1 (hts _ hl) (hts _ hi) (hts _ hini) rfl hd hcc hss hKn.2.1 hR.2.1 fun H1 kC hkC e1 z1 o1 => ?_
  have oo : ∀ q : Nat, q < H.size → H1[q]? = H[q]? := fun q hq => o1 q (by rw [← hR.2.1]; exact hq)
  refine kk H1 locs ls (zR_grow hR (by rw [z1, hR.2.1]) oo (fun o h1 h2 => ?_) hs (fun q hq => zupr_ne μ _ (Nat.ne_of_lt hq))) (va_S_grow hS (by rw [z1, hR.2.1]; omega) oo) hl9
  obtain rfl : o = N := by omega
  show va_at _ _ (_, zenr g (σ' o) (zupr μ o _ o) o) _
  rw [zupr_self, zent_obj hk f4]
  refine ⟨_, f1, (u_born ty0 hts f6 hKn hkC e1 f8).to (fun j hj => ?_)⟩
  have hq : ((List.range (znf ci)).map (zval (zb g) (σ' o) (fun j => if zrk ci j = 2 then -1 else 0) ci o)).getD j Value.null = zval (zb g) (σ' o) (fun j => if zrk ci j = 2 then -1 else 0) ci o j := by
    rw [List.getD_eq_getElem?_getD, zfs_get (by rw [f2]; exact hj), Option.getD_some]
  refine Eq.trans ?_ hq.symm
  unfold zval
  by_cases h0 : zrk ci j = 0
  · have h2 : ¬ zrk ci j = 2 := by omega
    rw [if_pos h0, (hd0 j hj).1 h0]
    exact congrArg Value.int (if_neg h2).symm
  · rw [if_neg h0, (hd0 j hj).2 h0]
    by_cases h3 : zrk ci j = 1
    · rw [if_pos h3, hσ j hj h3, if_neg (by decide)]
    · have h4 : zrk ci j = 2 := by
        have := zrk_le ci j
        omega
      rw [if_neg h3]
      refine Eq.trans ?_ (congrArg (zref (zb g)) (if_pos h4 : (if zrk ci j = 2 then (-1 : Int32) else 0) = -1)).symm
      rfl
theorem z_newA (C0 : zC p s m args meth c g cc y nL ret) {at1 : ArrayType} {t0 kind len : Nat} {ty : FieldType} {i : Int32} {d RC RS : Nat} (hRR : R = zrm d RC RS) (hty : newarray.typeOf at1 = ty) (ht : (ztys g)[t0]? = some (g.2.1 kind, ty)) (hk : zkd N = kind) (h20 : 20 ≤ kind ∧ kind < 22) (hln : zln N = len) (harr : Cond.arrayClass ty ∈ ztbl) (hdf : ty = .int ∨ ty = .boolean)
    (hn : ¬ i < 0) (hN : i.toNatClampNeg = len) (hbytes : len * componentBytes ty ≤ 536870912) (hcc : k + 1 ≤ RC) (hss : n + len ≤ RS) (hd : decode cc pc = .ok (.newarray at1, 2))
    (kk : Z p l e R s m args below meth c g Q nL (N + 1) (k + 1) (n + len) σ (zupr μ N (fun _ => 0)) (pc + 2) lo (.ref (zb g + N) :: st)) : Z p l e R s m args below meth c g Q nL N k n σ μ pc lo (.int i :: st) := by
  subst hRR
  intro H locs ls hR hS hl9
  have hts := C0.1.2.2.2.2
  refine va_newaK C0.1.1 C0.1.2.1 (by rw [hty]; exact hts _ harr) rfl hd rfl hn hN (by rw [hty]; exact hbytes) hcc hss hR.2.1 fun H1 cA e1 z1 o1 hAr hNm => ?_
  have oo : ∀ q : Nat, q < H.size → H1[q]? = H[q]? := fun q hq => o1 q (by rw [← hR.2.1]; exact hq)
  rw [hty] at e1 hNm
  have g1 : s.vm.findClass ("[" ++ ty.toString) = some (g.2.1 kind) := by
    have g0 := (C0.2.2.2.2.1.2 t0 _ ht).2
    rcases hdf with rfl | rfl
    · exact g0
    · exact g0
  have hdv : defaultValue ty = .int 0 := by rcases hdf with rfl | rfl <;> rfl
  have hcA : cA = g.2.1 kind := Option.some.inj (hNm.symm.trans g1)
  subst hcA
  refine kk H1 locs ls (zR_grow hR (by rw [z1, hR.2.1]) oo (fun o h1 h2 => ?_) (fun q _ => rfl) (fun q hq => zupr_ne μ _ (Nat.ne_of_lt hq))) (va_S_grow hS (by rw [z1, hR.2.1]; omega) oo) hl9
  obtain rfl : o = N := by omega
  show va_at _ _ (_, zenr g (σ o) (zupr μ o _ o) o) _
  rw [zupr_self]
  unfold zenr
  rw [hk, if_neg (by omega), if_pos h20.2, hln]
  show H1[_]? = some _
  rw [e1, hdv]
  rfl
theorem z_newq (C0 : zC p s m args meth c g cc y nL ret) {idx t0 kind len : Nat} {C : String} {i : Int32} {σ' : Nat → Nat → Bool} {d RC RS : Nat} (hRR : R = zrm d RC RS) (hcl : Cond.classLink y.cls idx C ∈ ztbl) (hover : va_AO C s) (ht : (ztys g)[t0]? = some (g.2.1 kind, .object C)) (hk : zkd N = kind) (h22 : 22 ≤ kind) (hln : zln N = len)
    (hn : ¬ i < 0) (hN : i.toNatClampNeg = len) (hbytes : len * 4 ≤ 536870912) (hcc : k + 1 ≤ RC) (hss : n + len ≤ RS) (hσ : ∀ j, σ' N j = false) (hs : ∀ q, q < N → σ' q = σ q) (hd : decode cc pc = .ok (.anewarray idx, 3))
    (kk : Z p l e R s m args below meth c g Q nL (N + 1) (k + 1) (n + len) σ' μ (pc + 3) lo (.ref (zb g + N) :: st)) : Z p l e R s m args below meth c g Q nL N k n σ μ pc lo (.int i :: st) := by
  subst hRR
  subst hN
  intro H locs ls hR hS hl9
  have hts := C0.1.2.2.2.2
  refine W.anew C0.1.1 C0.1.2.1 C0.1.2.2.2.1 (hts _ hcl) (va_AO.use hover) rfl hd rfl hn hbytes hcc hss fun cA kA comp f1 f2 f3 f4 => ?_
  generalize hH1 : H.push ({ cls := cA, slots := Array.replicate i.toNatClampNeg .null, vm := .none } : Cell) = H1
  have z1 : H1.size = H.size + 1 := by rw [← hH1, Array.size_push]
  have e1 : H1[H.size]? = some (arrV cA i.toNatClampNeg (fun _ => .null)) := by rw [← hH1, Array.getElem?_push_size, ← arrV_new]
  have oo : ∀ q : Nat, q < H.size → H1[q]? = H[q]? := fun q hq => by rw [← hH1, Array.getElem?_push, if_neg (Nat.ne_of_lt hq)]
  obtain ⟨-, kA9, comp9, -, -, -, g1⟩ := C0.2.2.2.2.1.2 t0 _ ht
  have hcA : cA = g.2.1 kind := Option.some.inj (f1.symm.trans g1)
  subst hcA
  rw [hR.2.1] at e1 ⊢
  refine kk H1 locs ls (zR_grow hR z1 oo (fun o h1 h2 => ?_) hs (fun q hq => rfl)) (va_S_grow hS (by omega) oo) hl9
  obtain rfl : o = N := by omega
  show va_at _ _ (_, zenr g (σ' o) (μ o) o) _
  unfold zenr
  rw [hk, if_neg (by omega), if_neg (by omega), hln]
  show H1[_]? = some (vp_cell _ _)
  rw [e1, vp_cell_q]
  congr 2
  funext j
  rw [if_neg (by rw [hσ j]; decide)]
  rfl
/-- a final field, written by the constructor -/
theorem z_putF (C0 : zC p s m args meth c g cc y nL ret) {o ci kf idx : Nat} {v : Value} {ty : FieldType} {σ1 : Nat → Nat → Bool} {μ1 : zM} (hk : zkd o = ci) (ho : o < N) (hf : zFld y.cls idx ci kf) (hfin : ∀ r : vw_C, zcls[ci]? = some r → (r.2.1 kf).2.2.2 = true ∧ parseFieldDescriptor (r.2.1 kf).2.2.1 = some ty ∧ (r.2.1 kf).1 = y.cls) (hin2 : y.name = "<init>") (hn : narrow ty v = v) (hfit : fits ty v = true)
    (hv : zval (zb g) (σ1 o) (μ1 o) ci o kf = v) (hoth : ∀ j, j ≠ kf → σ1 o j = σ o j ∧ μ1 o j = μ o j) (hs : ∀ q, q ≠ o → σ1 q = σ q) (hm : ∀ q, q ≠ o → μ1 q = μ q) (hd : decode cc pc = .ok (.putfield idx, 3)) (kk : Z p l e R s m args below meth c g Q nL N k n σ1 μ1 (pc + 3) lo st) :
    Z p l e R s m args below meth c g Q nL N k n σ μ pc lo (v :: .ref (zb g + o) :: st) := by
  intro H locs ls hR hS hl
  obtain ⟨C, T, nf, ty0, f1, f2, f3, f4, f5, f6, f7, f8⟩ := hf
  have he : (zW g N σ μ)[o]? = some (zb g + o, .inr (ci, (List.range (znf ci)).map (zval (zb g) (σ o) (μ o) ci o))) := by rw [zW_get ho, ← zent_obj hk f4]
  have hK := C0.2.2.2.2.1
  have hts := C0.1.2.2.2.2
  have hown := C0.1.2.2.2.1
  have hap := va_apart (own := y.cls) hts f6 ty0 f8 f7 hK f1
  obtain ⟨r, h1, cell, q1, q2, q3, q4⟩ := hR.1 o _ he
  have hr : r = (C, T, nf) := Option.some.inj (h1.symm.trans f1)
  subst hr
  obtain ⟨hSl, hfc, kC, hkC, hkind⟩ := hK.1 ci _ f1
  obtain ⟨cf, kfc, fi, f, hi, hsl⟩ := hSl kf f3
  obtain ⟨hfin, hdesc, hdecl⟩ := hfin _ f1
  have hlay := hts _ (f6 _ (u_in_lay f3))
  unfold u_lay at hlay
  rw [if_pos hfin] at hlay
  have hst := (u_facts hfc hkC (u_lays hts f6 f3) hi).1
  have hcf : m.cls = cf := by
    obtain ⟨_, _, c', _, _, _, -, -, hf', -, -, -, hown2, -⟩ := Cond.laysFinal_spec hlay
    have e1 : c' = cf := by have := hi.symm.trans hf'; simp at this; exact this.1.symm
    rw [hdecl] at hown2
    rw [← e1]; exact Option.some.inj (hown.symm.trans hown2)
  have h6 := u_fits hfc hkC hkind (Or.inr hlay) hi hdesc hn hfit
  refine W.putFinK C0.1.1 C0.1.2.1 (f := f) hown (hts _ f5) hi hst hcf (C0.2.2.2.1.trans hin2) (by rw [q2]; exact h6) q1 q3 (by rw [hsl]; exact k2_hasslot (q4 kf f3)) rfl rfl hd fun H' e1 e2 e3 => ?_
  rw [hsl] at e1 ⊢
  refine kk H' _ ls (zR_set hR ho ?_ e2 e3 hs hm) (hS.put e2 e3 (Nat.le_add_right _ _)) hl
  show va_at _ _ (_, zenr g (σ1 o) (μ1 o) o) _
  rw [zent_obj hk f4]
  refine ⟨_, f1, t_OB.to (V := updV (vp_V ((List.range (znf ci)).map (zval (zb g) (σ o) (μ o) ci o))) kf v) ⟨_, e1, q2, q3, t_set q4 hap f3 v⟩ (fun j _ => ?_)⟩
  rw [vp_updV_set (by rw [zlen, f2]; exact f3) v j]
  rw [zfs_set (s' := σ1 o) (r' := μ1 o) (fun j hj hjk => by unfold zval; rw [(hoth j hjk).1, (hoth j hjk).2]) hv]
theorem z_putr (C0 : zC p s m args meth c g cc y nL ret) {o ci kf idx b : Nat} {ty : FieldType} {σ1 : Nat → Nat → Bool} (hk : zkd o = ci) (ho : o < N) (hf : zFld y.cls idx ci kf) (hfin : ∀ r : vw_C, zcls[ci]? = some r → (r.2.1 kf).2.2.2 = true ∧ parseFieldDescriptor (r.2.1 kf).2.2.1 = some ty ∧ (r.2.1 kf).1 = y.cls) (hin2 : y.name = "<init>") (hty : ∀ q : Nat, narrow ty (.ref q) = .ref q ∧ fits ty (.ref q) = true)
    (hr : zrk ci kf = 1) (hb : zFX o kf = b) (hσ : ∀ q, q < N → ∀ j, σ1 q j = zsu σ o kf q j) (hd : decode cc pc = .ok (.putfield idx, 3)) (kk : Z p l e R s m args below meth c g Q nL N k n σ1 μ (pc + 3) lo st) :
    Z p l e R s m args below meth c g Q nL N k n σ μ pc lo (.ref (zb g + b) :: .ref (zb g + o) :: st) := by
  refine z_putF (σ1 := zsu σ o kf) (μ1 := μ) C0 hk ho hf hfin hin2 (hty _).1 (hty _).2 ?_ (fun j hj => ⟨?_, rfl⟩) (fun q hq => zsu_rne σ kf hq) (fun _ _ => rfl) hd (z_sig (σ' := σ1) (fun q hq i => ⟨fun _ _ _ => hσ q hq i, fun _ => hσ q hq i⟩) kk)
  · unfold zval
    rw [if_neg (by omega), if_pos hr, if_pos (by simp [zsu]), hb]
  · simp [zsu, hj]
theorem z_putfi (C0 : zC p s m args meth c g cc y nL ret) {o ci kf idx : Nat} {w : Int32} {μ1 : zM} (hk : zkd o = ci) (ho : o < N) (hf : zFld y.cls idx ci kf) (hfin : ∀ r : vw_C, zcls[ci]? = some r → (r.2.1 kf).2.2.2 = true ∧ parseFieldDescriptor (r.2.1 kf).2.2.1 = some .int ∧ (r.2.1 kf).1 = y.cls) (hin2 : y.name = "<init>")
    (hr : zrk ci kf = 0) (hm : μ1 = zup μ o kf w) (hd : decode cc pc = .ok (.putfield idx, 3)) (kk : Z p l e R s m args below meth c g Q nL N k n σ μ1 (pc + 3) lo st) :
    Z p l e R s m args below meth c g Q nL N k n σ μ pc lo (.int w :: .ref (zb g + o) :: st) := by
  subst hm
  refine z_putF (σ1 := σ) (μ1 := zup μ o kf w) C0 hk ho hf hfin hin2 rfl rfl ?_ (fun j hj => ⟨rfl, ?_⟩) (fun _ _ => rfl) (fun q hq => zup_rne μ kf w hq) hd kk
  · unfold zval
    rw [if_pos hr, zup_self]
  · simp [zup, hj]
theorem z_aast (C0 : zC p s m args meth c g cc y nL ret) {b kind len t0 ci x j : Nat} {i : Int32} {r : vw_C} {σ1 : Nat → Nat → Bool} (hA : zAr N b kind len) (h22 : 22 ≤ kind) (ht : (ztys g)[t0]? = some (g.2.1 kind, .object r.1)) (hx : zkd x = ci) (h20 : ci < 20) (hxN : x < N) (hc : zcls[ci]? = some r) (hin : zin i len = true) (hj : i.toNatClampNeg = j) (hfx : zFX b j = x)
    (hσ : ∀ q, q < N → ∀ j1, σ1 q j1 = zsu σ b j q j1) (hd : decode cc pc = .ok (.aastore, 1)) (kk : Z p l e R s m args below meth c g Q nL N k n σ1 μ (pc + 1) lo st) :
    Z p l e R s m args below meth c g Q nL N k n σ μ pc lo (.ref (zb g + x) :: .int i :: .ref (zb g + b) :: st) := by
  subst hj
  have kk := z_sig (σ := zsu σ b i.toNatClampNeg) (σ' := σ1) (fun q hq i => ⟨fun _ _ _ => hσ q hq i, fun _ => hσ q hq i⟩) kk
  intro H locs ls hR hS hl
  have hK := C0.2.2.2.2.1
  have hat := zR_at hR hA.1
  have he0 : ∀ σ0 : Nat → Nat → Bool, zent g σ0 μ b = .inl (g.2.1 kind, len, .inr (.inr (.inr (.inr (fun j => if σ0 b j = true then some (zb g + zFX b j) else none))))) := fun σ0 => by
    show zenr g (σ0 b) (μ b) b = _
    unfold zenr
    rw [hA.2.1, if_neg (by omega), if_neg (by omega), hA.2.2]
  rw [he0] at hat
  have hvp := zin_vp hin
  have hlt : i.toNatClampNeg < len := Nat.not_le.mp fun q => hvp (Or.inr q)
  have h0 : ¬ i < 0 := fun q => hvp (Or.inl q)
  have hxat := zR_at hR hxN
  have hxe : zent g σ μ x = _ := zent_obj hx h20
  rw [hxe] at hxat
  obtain ⟨r', hr', cellV, g1, g2, g3, -⟩ := hxat
  have hcls := (hK.1 ci r hc).2
  obtain ⟨kA, comp, k1, k2, k3, -⟩ := (hK.2 t0 _ ht).2
  have hcomp : comp = g.1.1 ci := Option.some.inj (k3.symm.trans hcls.1)
  subst hcomp
  obtain ⟨kC, hkC, -⟩ := hcls.2
  refine W.aast C0.1.1 C0.1.2.1 hat (fun q h => by cases h) (fun h => by cases h) k1 k2 rfl hkC ⟨h0, by show _ < (arrV _ _ _).slots.size; rw [arrV_size]; exact hlt⟩ g1 (fun q h => by rw [g3] at h; cases h) (by rw [g2]; exact hkC) (by rw [g2]; exact va_assign hcls) rfl rfl hd fun H1 e z oq => ?_
  refine kk H1 _ ls (zR_set hR hA.1 ?_ z oq (fun q hq => zsu_rne σ _ hq) (fun _ _ => rfl)) (hS.put z oq (Nat.le_add_right _ _)) hl
  rw [he0]
  show H1[zb g + b]? = some (vp_cell _ _)
  rw [e]
  rw [vp_cell_q, vp_cell_q, arrV_store]
  congr 2
  funext q
  by_cases hq : q = i.toNatClampNeg
  · subst hq
    simp [zsu, hfx, va_rf, updV]
  · simp [zsu, hq, updV]
theorem z_oini (C0 : zC p s m args meth c g cc y nL ret) {d RC RS idx a : Nat} (hRR : R = zrm d RC RS) (hd1 : 1 ≤ d) (h1 : Cond.methodLink y.cls idx Lib.objectInit ∈ ztbl) (h2 : Cond.instanceMethod Lib.objectInit ∈ ztbl) {bc : ByteArray} (hbc : bc = ⟨#[0xb1]⟩) (h3 : Cond.code Lib.objectInit bc 1 none ∈ ztbl) (hd : decode cc pc = .ok (.invokespecial idx, 3))
    (kk : Z p l e R s m args below meth c g Q nL N k n σ μ (pc + 3) lo []) : Z p l e R s m args below meth c g Q nL N k n σ μ pc lo [.ref a] := by
  subst hRR
  subst hbc
  intro H locs ls hR hS hl
  have hts := C0.1.2.2.2.2
  refine W.objInit C0.1.1 C0.1.2.1 C0.1.2.2.2.1 (hts _ h1) (hts _ h2) (hts _ h3) rfl (hl.1.trans C0.1.2.2.1.symm) rfl hd hd1 ?_ (kk H locs ls hR hS hl)
  show 2 * 0 + 0 + 12 ≤ 64 * d
  omega
theorem z_mna (C0 : zC p s m args meth c g cc y nL ret) {idx len w d RC RS : Nat} {i k0 : Int32} {μ1 : zM} (hRR : R = zrm d RC RS) (hcl : Cond.classLink y.cls idx "[[I" ∈ ztbl) (hover : (Cond.arrayOver (.array .int)).before #[] s = true) (harr : Cond.arrayClass .int ∈ ztbl) (hn : ¬ i < 0) (hk : ¬ k0 < 0) (hN : i.toNatClampNeg = len) (hM : k0.toNatClampNeg = w) (hb1 : len * 4 ≤ 536870912) (hb2 : w * 4 ≤ 536870912)
    (hk25 : zkd N = 25) (hl25 : zln N = len) (hrows : ∀ j, j < len → zkd (N + 1 + j) = 20 ∧ zln (N + 1 + j) = w ∧ zFX N j = N + 1 + j ∧ σ N j = true) (hcc : k + (1 + len) ≤ RC) (hss : n + (len + len * w) ≤ RS) (hm : μ1 = fun q => if N ≤ q then (fun _ => 0) else μ q) (hd : decode cc pc = .ok (.multianewarray idx 2, 4))
    (kk : Z p l e R s m args below meth c g Q nL (N + (1 + len)) (k + 1 + len) (n + len + len * w) σ μ1 (pc + 4) lo (.ref (zb g + N) :: st)) : Z p l e R s m args below meth c g Q nL N k n σ μ pc lo (.int k0 :: .int i :: st) := by
  subst hRR
  subst hN
  subst hM
  intro H locs ls hR hS hl9
  have hts := C0.1.2.2.2.2
  intro T hT Xs
  obtain ⟨vm1, cA, comp, -, fA, fC, -, -, X', step⟩ := Xs.multianewarray2F C0.1.1 (ty := .int) C0.1.2.2.2.1 (hts _ hcl) hover (hts _ harr) (g := F0 m pc ls (.int k0 :: .int i :: st)) rfl (by rw [C0.1.2.1]; exact hd) rfl hn hk hb1 hb2 (by omega) rfl rfl hcc hss
  have gA : s.vm.findClass ("[" ++ (FieldType.array .int).toString) = some (g.2.1 25) := (C0.2.2.2.2.1.2 5 _ rfl).2
  have gC : s.vm.findClass ("[" ++ FieldType.int.toString) = some (g.2.1 20) := (C0.2.2.2.2.1.2 0 _ rfl).2
  have eA : cA = g.2.1 25 := Option.some.inj (fA.symm.trans gA)
  have eC : comp = g.2.1 20 := Option.some.inj (fC.symm.trans gC)
  subst eA
  subst eC
  generalize hF : Jvm.Free.Multi.fill (T.setVm vm1) (g.2.1 25) (g.2.1 20) i.toNatClampNeg k0.toNatClampNeg (defaultValue .int) i.toNatClampNeg = F at X' step
  have hTh : (T.setVm vm1).heap = H := hT
  obtain ⟨f1, f2, -, -⟩ := Jvm.Free.Multi.fill_facts (T.setVm vm1) (g.2.1 25) (g.2.1 20) i.toNatClampNeg k0.toNatClampNeg (defaultValue .int) i.toNatClampNeg
  rw [hF, hTh] at f1 f2
  have hold : ∀ x : Nat, x < H.size → F.heap[x]? = H[x]? := fun x hx => by
    have := Jvm.Free.Multi.fill_old (T.setVm vm1) (g.2.1 25) (g.2.1 20) i.toNatClampNeg k0.toNatClampNeg (defaultValue .int) (a := x) (by rw [hTh]; exact hx) i.toNatClampNeg
    rw [hF, hTh] at this
    exact this
  have hrow : ∀ j : Nat, j < i.toNatClampNeg → F.heap[H.size + 1 + j]? = some (Jvm.Free.Multi.innerC (g.2.1 20) k0.toNatClampNeg (defaultValue .int)) := fun j hj => by
    have := Jvm.Free.Multi.fill_inner (T.setVm vm1) (g.2.1 25) (g.2.1 20) i.toNatClampNeg k0.toNatClampNeg (defaultValue .int) i.toNatClampNeg j hj
    rw [hF, hTh] at this
    exact this
  have hTz : T.heap.size = zb g + N := by
    have : T.heap = H := hT
    rw [this]
    exact hR.2.1
  rw [hTz] at step
  have hsz := hR.2.1
  rw [hsz] at f1 f2 hrow
  have hR1 : zR g (N + (1 + i.toNatClampNeg)) σ μ1 F.heap := by
    subst hm
    refine zR_grow hR (by rw [f1, hsz]; omega) hold (fun o h1 h2 => ?_) (fun _ _ => rfl) (fun q hq => if_neg (by omega))
    by_cases ho : o = N
    · subst ho
      show va_at _ _ (_, zenr g (σ o) (if o ≤ o then (fun _ => 0) else μ o) o) _
      unfold zenr
      rw [hk25, if_neg (by decide), if_neg (by decide), hl25]
      show F.heap[_]? = some (vp_cell _ _)
      rw [f2, vp_cell_q, vr_outer0]
      refine congrArg some (arrV_same (fun j hj => ?_))
      obtain ⟨-, -, h5, h6⟩ := hrows j hj
      rw [if_pos hj, if_pos h6, h5]
      refine congrArg va_rf (congrArg some ?_)
      omega
    · obtain ⟨j, rfl⟩ : ∃ j, o = N + 1 + j := ⟨o - N - 1, by omega⟩
      obtain ⟨h3, h4, -, -⟩ := hrows j (by omega)
      show va_at _ _ (_, zenr g (σ (N + 1 + j)) (if N ≤ N + 1 + j then (fun _ => 0) else μ (N + 1 + j)) (N + 1 + j)) _
      rw [if_pos (by omega)]
      unfold zenr
      rw [h3, if_neg (by decide), if_pos (by decide), h4]
      show F.heap[_]? = some _
      have h7 := hrow j (by omega)
      rw [show zb g + N + 1 + j = zb g + (N + 1 + j) by omega] at h7
      rw [h7]
      refine congrArg some ?_
      show ({ cls := g.2.1 20, slots := Array.replicate k0.toNatClampNeg (.int 0), vm := .none } : Cell) = _
      rw [arrV_new]
      rfl
  obtain ⟨t, a1, b1⟩ := kk F.heap locs ls hR1 (va_S_grow hS (by rw [f1, hsz]; omega) hold) hl9 F rfl X'
  exact ⟨t, step t a1, b1⟩
end ZMAKE
