abbrev zmax (x w : Int32) : Int32 := if x < w then w else x
abbrev zmin (x w : Int32) : Int32 := if w < x then w else x
abbrev zabs (x : Int32) : Int32 := if 0 ≤ x then x else 0 - x
theorem good_ws {ws : List Cond} (h : ∀ w ∈ ws, w ∈ ztbl) : GoodIn ztbl ws := fun w hw => ztbl_good w (h w hw)
theorem zIn_blind {g : zL} {N : Nat} {σ : Nat → Nat → Bool} {μ : zM} {av : List Value} : FrameBlind (va_Pc av (zIn g N σ μ)) := fun a U gf mk q =>
  ⟨q.1, q.2.1, va_K.moved (u := U) (U := U.calling gf mk a) (Vm.Alike.refl U.vm) q.2.2.1, q.2.2.2⟩
theorem zMet.of {l : Launch} {g : zL} {y : MethodName} {b : ByteArray} {nL : Nat} {ret : Option FieldType} {d mc ms N N' : Nat} {σ σ' : Nat → Nat → Bool} {av : List Value} {μ : zM} {rv : Option Value} {μ' : zM} (hy : plainName y.cls = true) (hav : (lg_sl av).length ≤ nL)
    (body : ∀ (p : Program) (e : Env) (s : State) (m : MethodId) (args : Array Value) (below : List Frame) (meth : Method) (c : Code), zC p s m args meth c g b y nL ret → Z p l e (zrm d mc ms) s m args below meth c g (MQ below (zQ g N' σ' rv μ') args s mc ms (zA g)) nL N 0 0 σ μ 0 (lv_args 0 av) []) : zMet l g y b nL ret d mc ms N N' σ σ' av μ rv μ' := by
  refine Met.ofW (cc := b) (maxL := nL) (ret := ret) hy rfl ?_
  intro p e s m args below meth c s₁ B hml hv
  obtain ⟨rfl, hR, hK, hSp⟩ := hv
  have hts := atoms_spec (ws := .code y b nL ret :: ztbl) B.pre
  have C0 : zC p s m av.toArray meth c g b y nL ret := ⟨⟨B.exec, B.bytes, hml, findClass_of_methodNamed B.named, fun w hw => hts w (List.mem_cons_of_mem _ hw)⟩, B.returns, B.notSynchronized, (name_of_methodNamed B.named B.method).1, hK, hR.2.2, by rw [hR.2.1]; omega, hSp⟩
  have hl := lv_entry av (n := nL) hav
  rw [lg_entry_eq]
  exact body p e s m _ below meth c C0 s.heap [] _ hR va_S.rf hl
section ZCALL
variable {p : Program} {l : Launch} {e : Env} {R : Room} {s : State} {m : MethodId} {args : Array Value} {below : List Frame} {meth : Method} {c : Code} {g : zL} {Q : State → Prop} {nL N k n : Nat} {σ : Nat → Nat → Bool} {μ : zM} {cc : ByteArray} {y : MethodName} {ret : Option FieldType} {pc : Nat} {lo : List (Nat × Value)} {st : List Value}
theorem z_iret (C0 : zC p s m args meth c g cc y nL ret) {v : Int32} (hr : ret = some .int) (hd : decode cc pc = .ok (.ireturn, 1)) : Z p l e R s m args below meth c g (MQ below (zQ g N σ (some (.int v)) μ) args s k n (zA g)) nL N k n σ μ pc lo [.int v] :=
  fun H locs ls hR hS hl => W.iret C0.1.1 C0.1.2.1 (C0.2.1.trans hr) (fun t ht hW => ⟨rfl, by rw [ht]; exact hR⟩) hS.2.2 hd C0.2.2.1
theorem z_zret (C0 : zC p s m args meth c g cc y nL ret) {v : Int32} (hr : ret = some .boolean) (hb : z01 v = true) (hd : decode cc pc = .ok (.ireturn, 1)) : Z p l e R s m args below meth c g (MQ below (zQ g N σ (some (.int v)) μ) args s k n (zA g)) nL N k n σ μ pc lo [.int v] :=
  fun H locs ls hR hS hl => W.zret C0.1.1 C0.1.2.1 (C0.2.1.trans hr) (z01_nar hb) (fun t ht hW => ⟨rfl, by rw [ht]; exact hR⟩) hS.2.2 hd C0.2.2.1
theorem z_lret (C0 : zC p s m args meth c g cc y nL ret) {v : Int64} (hr : ret = some .long) (hd : decode cc pc = .ok (.lreturn, 1)) : Z p l e R s m args below meth c g (MQ below (zQ g N σ (some (.long v)) μ) args s k n (zA g)) nL N k n σ μ pc lo [.long v] :=
  fun H locs ls hR hS hl => W.lret C0.1.1 C0.1.2.1 (C0.2.1.trans hr) (fun t ht hW => ⟨rfl, by rw [ht]; exact hR⟩) hS.2.2 hd C0.2.2.1
theorem z_vret (C0 : zC p s m args meth c g cc y nL ret) (hr : ret = none) (hd : decode cc pc = .ok (.return_, 1)) : Z p l e R s m args below meth c g (MQ below (zQ g N σ none μ) args s k n (zA g)) nL N k n σ μ pc lo [] :=
  fun H locs ls hR hS hl => W.vret C0.1.1 C0.1.2.1 (C0.2.1.trans hr) (fun t ht hW => ⟨rfl, by rw [ht]; exact hR⟩) hS.2.2 hd C0.2.2.1
theorem z_aret (C0 : zC p s m args meth c g cc y nL ret) {v : Value} {rt : String} (hr : ret = some (.object rt)) (hv : v = .null ∨ ∃ a, v = .ref a) (hd : decode cc pc = .ok (.areturn, 1)) : Z p l e R s m args below meth c g (MQ below (zQ g N σ (some v) μ) args s k n (zA g)) nL N k n σ μ pc lo [v] :=
  fun H locs ls hR hS hl => W.aret C0.1.1 C0.1.2.1 (C0.2.1.trans hr) (Or.inl ⟨_, rfl⟩) hv (fun t ht hW => ⟨rfl, by rw [ht]; exact hR⟩) hS.2.2 hd C0.2.2.1
/-- behind a call: whatever kind it was -/
theorem z_back (C0 : zC p s m args meth c g cc y nL ret) {mc ms N' d RC RS : Nat} {σ' : Nat → Nat → Bool} {μ' : zM} {rv : Option Value} {rest st1 st2 : List Value} {a : Array Value} (hNN : N ≤ N') (h2 : rv.toList ++ rest = st2)
    (run : ∀ (H : Heap) (locs : List Loc) (ls : Array Slot), zR g N σ μ H → va_S (zA g) s.heap H locs → lv_has ls nL lo → va_Run p l e R s m args below meth c H locs k n mc ms (F0 m pc ls st1) rest (zQ g N' σ' rv μ' a) (zA g))
    (kk : Z p l e R s m args below meth c g Q nL N' (k + mc) (n + ms) σ' μ' (pc + 3) lo st2) : Z p l e R s m args below meth c g Q nL N k n σ μ pc lo st1 := by
  subst h2
  intro H locs ls hR hS hl T hT X
  obtain ⟨v, st₀, t, T', L, h0, X', hL, e1, e2, hq, stp⟩ := run H locs ls hR hS hl T hT X
  obtain ⟨hv, hR'⟩ := hq
  cases hv
  have hR1 : zR g N' σ' μ' T'.heap := by rw [e1]; exact hR'
  obtain ⟨t2, a1, b1⟩ := kk T'.heap (locs ++ L) ls hR1 ⟨by
      have h1 := hS.1
      have h2 := hR.2.1
      have h3 := hR1.2.1
      omega, fun q h1 h2 => by
      have hq : q < zb g := Nat.not_le.mp h2
      rw [hR1.2.2 q hq, C0.2.2.2.2.2.1 q hq], fun q hq => by
      rcases List.mem_append.mp hq with h | h
      · exact hS.2.2 q h
      · exact hL q h⟩ hl T' rfl X'
  exact ⟨t2, stp t2 a1, b1⟩
theorem zIn_at (C0 : zC p s m args meth c g cc y nL ret) {H : Heap} (hR : zR g N σ μ H) (U : State) (hU : U.heap = H) (hW : s.WarmedH U.vm) : zIn g N σ μ U :=
  ⟨by rw [hU]; exact hR, va_K.moved hW.alike C0.2.2.2.2.1, C0.2.2.2.2.2.2.2.2 s _ hW C0.2.2.2.2.2.2.2.1, C0.2.2.2.2.2.2.2.2⟩
theorem zroom {d d' mc ms RC RS nL' : Nat} (hr : d' + 1 ≤ d) (hL : nL' ≤ 45) : (zrm d' mc ms).frames + 1 ≤ (zrm d RC RS).frames ∧ 8 + (nL' + 11) + (zrm d' mc ms).locals ≤ (zrm d RC RS).locals := by
  simp only [zrm]
  omega
theorem z_callV (C0 : zC p s m args meth c g cc y nL ret) {Cn : String} {yc : MethodName} {bc : ByteArray} {nLc nc idx d' mc ms N' o ci d RC RS : Nat} {retc : Option FieldType} {σ' : Nat → Nat → Bool} {μ' : zM} {rv : Option Value} {As rest st1 st2 : List Value} (hRR : R = zrm d RC RS)
    (hc : zCalV Cn yc bc nLc retc nc) (hlk : Cond.methodLink y.cls idx yc ∈ ztbl) (hM : zMet l g yc bc nLc retc d' mc ms N N' σ σ' (.ref (zb g + o) :: As) μ rv μ') (hk : zkd o = ci) (ho : o < N) (hcn : (zcls[ci]?).map (fun q => q.1) = some Cn) (hci : ci < 20) (hn : As.length = nc)
    (hst : (rest.map fun v => v.category).sum ≤ 8) (hr : d' + 1 ≤ d) (hcc : k + mc ≤ RC) (hss : n + ms ≤ RS) (hNN : N ≤ N') (h1 : st1 = As.reverse ++ .ref (zb g + o) :: rest) (h2 : rv.toList ++ rest = st2) (hd : decode cc pc = .ok (.invokevirtual idx, 3))
    (kk : Z p l e R s m args below meth c g Q nL N' (k + mc) (n + ms) σ' μ' (pc + 3) lo st2) : Z p l e R s m args below meth c g Q nL N k n σ μ pc lo st1 := by
  subst hRR; subst h1
  obtain ⟨w1, w2, w3, w4, w5, w6, w7, w8, w9⟩ := hc
  refine z_back (a := (Value.ref (zb g + o) :: As).toArray) C0 (d := d) (RC := RC) (RS := RS) hNN h2 (fun H locs ls hR hS hl => ?_) kk
  have hts := C0.1.2.2.2.2
  have he : (zW g N σ μ)[o]? = some (zb g + o, .inr (ci, (List.range (znf ci)).map (zval (zb g) (σ o) (μ o) ci o))) := by rw [zW_get ho, ← zent_obj hk hci]
  obtain ⟨r, hr1, hr2⟩ : ∃ r, zcls[ci]? = some r ∧ r.1 = Cn := by
    cases hz : zcls[ci]? with
    | none => rw [hz] at hcn; cases hcn
    | some r => rw [hz] at hcn; exact ⟨r, rfl, Option.some.inj hcn⟩
  subst hr2
  exact va_runV (As := As) (rest := rest) C0.1 hM ⟨callB_of nc hts (good_ws (ws := .code yc bc nLc retc :: ztbl) (fun w hw => by
      rcases List.mem_cons.mp hw with h | h
      · rw [h]; exact w3
      · exact h)) rfl rfl rfl (hts _ w4) (hts _ hlk) ⟨w7, w8, w9⟩ (zroom hr w5), hts _ w1, hts _ w2⟩ ⟨zIn_blind, va_recv C0.2.2.2.2.1 hR.1 hr1 he, fun U hU hW => ⟨rfl, zIn_at C0 hR U hU hW⟩⟩ rfl hn hl.1 rfl (lv_room hst) hd ⟨hcc, hss⟩
theorem z_callS (C0 : zC p s m args meth c g cc y nL ret) {yc : MethodName} {bc : ByteArray} {nLc nc idx d' mc ms N' d RC RS : Nat} {retc : Option FieldType} {σ' : Nat → Nat → Bool} {μ' : zM} {rv : Option Value} {As rest st1 st2 : List Value} (hRR : R = zrm d RC RS)
    (hc : zCalS yc bc nLc retc nc) (hlk : Cond.methodLink y.cls idx yc ∈ ztbl) (hM : zMet l g yc bc nLc retc d' mc ms N N' σ σ' As μ rv μ') (hn : As.length = nc)
    (hst : (rest.map fun v => v.category).sum ≤ 8) (hr : d' + 1 ≤ d) (hcc : k + mc ≤ RC) (hss : n + ms ≤ RS) (hNN : N ≤ N') (h1 : st1 = As.reverse ++ rest) (h2 : rv.toList ++ rest = st2) (hd : decode cc pc = .ok (.invokestatic idx, 3))
    (kk : Z p l e R s m args below meth c g Q nL N' (k + mc) (n + ms) σ' μ' (pc + 3) lo st2) : Z p l e R s m args below meth c g Q nL N k n σ μ pc lo st1 := by
  subst hRR; subst h1
  obtain ⟨w1, w3, w4, w5, w7, w8, w9⟩ := hc
  refine z_back (a := As.toArray) C0 (d := d) (RC := RC) (RS := RS) hNN h2 (fun H locs ls hR hS hl => ?_) kk
  have hts := C0.1.2.2.2.2
  exact va_runS (As := As) (rest := rest) C0.1 hM ⟨callB_of nc hts (good_ws (ws := .code yc bc nLc retc :: ztbl) (fun w hw => by
      rcases List.mem_cons.mp hw with h | h
      · rw [h]; exact w3
      · exact h)) rfl rfl rfl (hts _ w4) (hts _ hlk) ⟨w7, w8, w9⟩ (zroom hr w5), hts _ w1⟩ ⟨zIn_blind, fun U hU hW => ⟨rfl, zIn_at C0 hR U hU hW⟩⟩ rfl hn hl.1 rfl (lv_room hst) hd ⟨hcc, hss⟩
/-- a constructor's call -/
theorem z_callI (C0 : zC p s m args meth c g cc y nL ret) {yc : MethodName} {bc : ByteArray} {nLc nc idx d' mc ms N' o d RC RS : Nat} {σ' : Nat → Nat → Bool} {μ' : zM} {As rest st1 : List Value} (hRR : R = zrm d RC RS)
    (hin : Cond.instanceMethod yc ∈ ztbl) (w3 : Cond.code yc bc nLc none ∈ ztbl) (w4 : Cond.initialized yc.cls ∈ ztbl) (w5 : nLc ≤ 45) (w7 : yc.cls ≠ "java/lang/invoke/MethodHandle" ∧ yc.cls ≠ "java/lang/invoke/VarHandle" ∧ (parseMethodDescriptor yc.desc).map (fun d => d.parameters.length) = some nc) (hnm : yc.name = "<init>") (hlk : Cond.methodLink y.cls idx yc ∈ ztbl)
    (hM : zMet l g yc bc nLc none d' mc ms N N' σ σ' (.ref (zb g + o) :: As) μ none μ') (hn : As.length = nc)
    (hst : (rest.map fun v => v.category).sum ≤ 8) (hr : d' + 1 ≤ d) (hcc : k + mc ≤ RC) (hss : n + ms ≤ RS) (hNN : N ≤ N') (h1 : st1 = As.reverse ++ .ref (zb g + o) :: rest) (hd : decode cc pc = .ok (.invokespecial idx, 3))
    (kk : Z p l e R s m args below meth c g Q nL N' (k + mc) (n + ms) σ' μ' (pc + 3) lo rest) : Z p l e R s m args below meth c g Q nL N k n σ μ pc lo st1 := by
  subst hRR; subst h1
  refine z_back (a := (Value.ref (zb g + o) :: As).toArray) (rv := none) C0 (d := d) (RC := RC) (RS := RS) hNN rfl (fun H locs ls hR hS hl => ?_) kk
  have hts := C0.1.2.2.2.2
  exact va_runI (As := As) (rest := rest) C0.1 hM ⟨callB_of nc hts (good_ws (ws := .code yc bc nLc none :: ztbl) (fun w hw => by
      rcases List.mem_cons.mp hw with h | h
      · rw [h]; exact w3
      · exact h)) rfl rfl rfl (hts _ w4) (hts _ hlk) w7 (zroom hr w5), hnm, hts _ hin⟩ ⟨zIn_blind, fun U hU hW => ⟨rfl, zIn_at C0 hR U hU hW⟩⟩ rfl hn hl.1 rfl (lv_room hst) hd ⟨hcc, hss⟩
theorem z_callIN (C0 : zC p s m args meth c g cc y nL ret) {host : String} {yc : MethodName} {bc : ByteArray} {nLc nc idx d' mc ms N' o d RC RS : Nat} {σ' : Nat → Nat → Bool} {μ' : zM} {As rest st1 : List Value} (hRR : R = zrm d RC RS)
    (hin : Cond.instanceMethod yc ∈ ztbl) (w3 : Cond.code yc bc nLc none ∈ ztbl) (w4 : Cond.initialized yc.cls ∈ ztbl) (w5 : nLc ≤ 45) (w7 : yc.cls ≠ "java/lang/invoke/MethodHandle" ∧ yc.cls ≠ "java/lang/invoke/VarHandle" ∧ (parseMethodDescriptor yc.desc).map (fun d => d.parameters.length) = some nc) (hnm : yc.name = "<init>") (hlk : Cond.methodLinkNest y.cls idx yc host ∈ ztbl)
    (hM : zMet l g yc bc nLc none d' mc ms N N' σ σ' (.ref (zb g + o) :: As) μ none μ') (hn : As.length = nc)
    (hst : (rest.map fun v => v.category).sum ≤ 8) (hr : d' + 1 ≤ d) (hcc : k + mc ≤ RC) (hss : n + ms ≤ RS) (hNN : N ≤ N') (h1 : st1 = As.reverse ++ .ref (zb g + o) :: rest) (hd : decode cc pc = .ok (.invokespecial idx, 3))
    (kk : Z p l e R s m args below meth c g Q nL N' (k + mc) (n + ms) σ' μ' (pc + 3) lo rest) : Z p l e R s m args below meth c g Q nL N k n σ μ pc lo st1 := by
  subst hRR; subst h1
  refine z_back (a := (Value.ref (zb g + o) :: As).toArray) (rv := none) C0 (d := d) (RC := RC) (RS := RS) hNN rfl (fun H locs ls hR hS hl => ?_) kk
  have hts := C0.1.2.2.2.2
  have hnest : va_Nw (.methodLinkNest y.cls idx yc host) s := word_at (State.WarmedH.refl s) (ztbl_good _ hlk).2 (hts _ hlk)
  exact va_runIN (As := As) (rest := rest) C0.1 hM ⟨va_cnB nc hts (good_ws (ws := .code yc bc nLc none :: ztbl) (fun w hw => by
      rcases List.mem_cons.mp hw with h | h
      · rw [h]; exact w3
      · exact h)) rfl rfl rfl hnest (hts _ w4) w7 (zroom hr w5), hnm, hts _ hin⟩ ⟨zIn_blind, fun U hU hW => ⟨rfl, zIn_at C0 hR U hU hW⟩⟩ rfl hn hl.1 rfl (lv_room hst) hd ⟨hcc, hss⟩
theorem z_mmax (C0 : zC p s m args meth c g cc y nL ret) {x w : Int32} {idx d RC RS : Nat} (hRR : R = zrm (d + 1) RC RS) (hlk : Cond.methodLink y.cls idx Lib.Math.max.name ∈ ztbl) (hm : Cond.static Lib.Math.max.name ∈ ztbl ∧ Cond.initialized "java/lang/Math" ∈ ztbl ∧ Cond.code Lib.Math.max.name Lib.Math.max.code 2 (some .int) ∈ ztbl) (hst : (st.map fun v => v.category).sum ≤ 8) (hk : k ≤ RC) (hn : n ≤ RS) (hd : decode cc pc = .ok (.invokestatic idx, 3))
    (kk : Z p l e R s m args below meth c g Q nL N k n σ μ (pc + 3) lo (.int (zmax x w) :: st)) : Z p l e R s m args below meth c g Q nL N k n σ μ pc lo (.int w :: .int x :: st) := by
  subst hRR
  intro H locs ls hR hS hl
  have hts := C0.1.2.2.2.2
  exact va_mmax C0.1.1 C0.1.2.1 (C0.1.2.2.1.trans hl.1.symm) C0.1.2.2.2.1 (hts _ hlk) (hts _ hm.1) (hts _ hm.2.1) (hts _ hm.2.2) (by show 1 ≤ d + 1; omega) (by show _ + 13 ≤ 64 * (d + 1); omega) hk hn hd (kk H locs ls hR hS hl)
theorem z_mmin (C0 : zC p s m args meth c g cc y nL ret) {x w : Int32} {idx d RC RS : Nat} (hRR : R = zrm (d + 1) RC RS) (hlk : Cond.methodLink y.cls idx Lib.Math.min.name ∈ ztbl) (hm : Cond.static Lib.Math.min.name ∈ ztbl ∧ Cond.initialized "java/lang/Math" ∈ ztbl ∧ Cond.code Lib.Math.min.name Lib.Math.min.code 2 (some .int) ∈ ztbl) (hst : (st.map fun v => v.category).sum ≤ 8) (hk : k ≤ RC) (hn : n ≤ RS) (hd : decode cc pc = .ok (.invokestatic idx, 3))
    (kk : Z p l e R s m args below meth c g Q nL N k n σ μ (pc + 3) lo (.int (zmin x w) :: st)) : Z p l e R s m args below meth c g Q nL N k n σ μ pc lo (.int w :: .int x :: st) := by
  subst hRR
  intro H locs ls hR hS hl
  have hts := C0.1.2.2.2.2
  exact va_mmin C0.1.1 C0.1.2.1 (C0.1.2.2.1.trans hl.1.symm) C0.1.2.2.2.1 (hts _ hlk) (hts _ hm.1) (hts _ hm.2.1) (hts _ hm.2.2) (by show 1 ≤ d + 1; omega) (by show _ + 13 ≤ 64 * (d + 1); omega) hk hn hd (kk H locs ls hR hS hl)
theorem z_mabs (C0 : zC p s m args meth c g cc y nL ret) {x : Int32} {idx d RC RS : Nat} (hRR : R = zrm (d + 1) RC RS) (hlk : Cond.methodLink y.cls idx Lib.Math.abs.name ∈ ztbl) (hm : Cond.static Lib.Math.abs.name ∈ ztbl ∧ Cond.initialized "java/lang/Math" ∈ ztbl ∧ Cond.code Lib.Math.abs.name Lib.Math.abs.code 1 (some .int) ∈ ztbl) (hst : (st.map fun v => v.category).sum ≤ 8) (hk : k ≤ RC) (hn : n ≤ RS) (hd : decode cc pc = .ok (.invokestatic idx, 3))
    (kk : Z p l e R s m args below meth c g Q nL N k n σ μ (pc + 3) lo (.int (zabs x) :: st)) : Z p l e R s m args below meth c g Q nL N k n σ μ pc lo (.int x :: st) := by
  subst hRR
  intro H locs ls hR hS hl
  have hts := C0.1.2.2.2.2
  exact va_mabs C0.1.1 C0.1.2.1 (C0.1.2.2.1.trans hl.1.symm) C0.1.2.2.2.1 (hts _ hlk) (hts _ hm.1) (hts _ hm.2.1) (hts _ hm.2.2) (by show 1 ≤ d + 1; omega) (by show _ + 13 ≤ 64 * (d + 1); omega) hk hn hd (kk H locs ls hR hS hl)
end ZCALL
/-- a reference that may be null, as a value -/
def zopt (B : Nat) (r : Option Nat) : Value := match r with
  | none => .null
  | some a => .ref (B + a)
theorem zopt_or (B : Nat) (r : Option Nat) : zopt B r = .null ∨ ∃ a, zopt B r = .ref a := by
  cases r with
  | none => exact Or.inl rfl
  | some a => exact Or.inr ⟨_, rfl⟩
theorem zopt_cat (B : Nat) (r : Option Nat) : (zopt B r).category = 1 := by
  cases r <;> rfl
def zcase {α : Type} (r : Option Nat) (x : α) (f : Nat → α) : α := match r with
  | none => x
  | some a => f a
theorem zcase_n {α : Type} {r : Option Nat} {x q : α} {f : Nat → α} (c : r = none) (h : zcase r x f = q) : x = q := by subst c; exact h
theorem zcase_s {α : Type} {r : Option Nat} {x q : α} {f : Nat → α} {w : Nat} (c : r = some w) (h : zcase r x f = q) : f w = q := by subst c; exact h
section ZNUL
variable {p : Program} {l : Launch} {e : Env} {R : Room} {s : State} {m : MethodId} {args : Array Value} {below : List Frame} {meth : Method} {c : Code} {g : zL} {Q : State → Prop} {nL N k n : Nat} {σ : Nat → Nat → Bool} {μ : zM} {cc : ByteArray} {y : MethodName} {ret : Option FieldType} {pc : Nat} {lo : List (Nat × Value)} {st : List Value}
theorem z_anull (C0 : zC p s m args meth c g cc y nL ret) (hd : decode cc pc = .ok (.aconst_null, 1)) (kk : Z p l e R s m args below meth c g Q nL N k n σ μ (pc + 1) lo (.null :: st)) : Z p l e R s m args below meth c g Q nL N k n σ μ pc lo st := by
  intro H locs ls hR hS hl T hT X
  obtain ⟨t, a, b⟩ := kk H locs ls hR hS hl T hT X
  refine ⟨t, ?_, b⟩
  jvm_step X.here [X.here.top, C0.1.1, C0.1.2.1, hd]
  exact a
theorem z_aloadq_n (C0 : zC p s m args meth c g cc y nL ret) {z : Fin 4} {i : Nat} {r : Option Nat} (hd : decode cc pc = .ok (.aload_n z, 1)) (hi : (z : Nat) = i) (j : Nat) (hj : lo[j]? = some (i, zopt (zb g) r)) (kk : Z p l e R s m args below meth c g Q nL N k n σ μ (pc + 1) lo (zopt (zb g) r :: st)) : Z p l e R s m args below meth c g Q nL N k n σ μ pc lo st := by
  cases r with
  | none => exact fun H locs ls hR hS hl => lv_aload_nN C0.1.1 C0.1.2.1 hd hi (lv_at hl j hj) (kk H locs ls hR hS hl)
  | some a => exact z_aload_n C0 hd hi j hj kk
theorem z_aloadq (C0 : zC p s m args meth c g cc y nL ret) {i : Nat} {r : Option Nat} (hd : decode cc pc = .ok (.aload i, 2)) (j : Nat) (hj : lo[j]? = some (i, zopt (zb g) r)) (kk : Z p l e R s m args below meth c g Q nL N k n σ μ (pc + 2) lo (zopt (zb g) r :: st)) : Z p l e R s m args below meth c g Q nL N k n σ μ pc lo st := by
  cases r with
  | none => exact fun H locs ls hR hS hl => lv_aloadN C0.1.1 C0.1.2.1 hd (lv_at hl j hj) (kk H locs ls hR hS hl)
  | some a => exact z_aload C0 hd j hj kk
theorem z_astoreq_n (C0 : zC p s m args meth c g cc y nL ret) {z : Fin 4} {i : Nat} {r : Option Nat} {lo1 : List (Nat × Value)} (hd : decode cc pc = .ok (.astore_n z, 1)) (hi : (z : Nat) = i) (hn : i < nL) (hf : (i, zopt (zb g) r) :: lo.filter (fun q => !(q.1 == i) && !(q.1 + 1 == i && q.2.category == 2)) = lo1) (kk : Z p l e R s m args below meth c g Q nL N k n σ μ (pc + 1) lo1 st) : Z p l e R s m args below meth c g Q nL N k n σ μ pc lo (zopt (zb g) r :: st) := by
  cases r with
  | none => exact fun H locs ls hR hS hl => lv_astore_nN C0.1.1 C0.1.2.1 hd hi hl hn hf (fun ls1 hl1 => kk H locs ls1 hR hS hl1)
  | some a => exact z_astore_n C0 hd hi hn hf kk
theorem z_astoreq (C0 : zC p s m args meth c g cc y nL ret) {i : Nat} {r : Option Nat} {lo1 : List (Nat × Value)} (hd : decode cc pc = .ok (.astore i, 2)) (hn : i < nL) (hf : (i, zopt (zb g) r) :: lo.filter (fun q => !(q.1 == i) && !(q.1 + 1 == i && q.2.category == 2)) = lo1) (kk : Z p l e R s m args below meth c g Q nL N k n σ μ (pc + 2) lo1 st) : Z p l e R s m args below meth c g Q nL N k n σ μ pc lo (zopt (zb g) r :: st) := by
  cases r with
  | none => exact fun H locs ls hR hS hl => lv_astoreN C0.1.1 C0.1.2.1 hd hl hn hf (fun ls1 hl1 => kk H locs ls1 hR hS hl1)
  | some a => exact z_astore C0 hd hn hf kk
theorem z_ifnullq (C0 : zC p s m args meth c g cc y nL ret) {r : Option Nat} {off : Int} (tgt : Nat) (hd : decode cc pc = .ok (.ifnull off, 3)) (ht : (pc : Int) + off = (tgt : Int)) (kt : r = none → Z p l e R s m args below meth c g Q nL N k n σ μ tgt lo st) (kf : ∀ w, r = some w → Z p l e R s m args below meth c g Q nL N k n σ μ (pc + 3) lo st) : Z p l e R s m args below meth c g Q nL N k n σ μ pc lo (zopt (zb g) r :: st) := by
  cases r with
  | none => exact z_ifnullN C0 tgt hd ht (kt rfl)
  | some w => exact z_ifnull C0 hd (kf w rfl)
theorem z_ifnonnullq (C0 : zC p s m args meth c g cc y nL ret) {r : Option Nat} {off : Int} (tgt : Nat) (hd : decode cc pc = .ok (.ifnonnull off, 3)) (ht : (pc : Int) + off = (tgt : Int)) (kt : ∀ w, r = some w → Z p l e R s m args below meth c g Q nL N k n σ μ tgt lo st) (kf : r = none → Z p l e R s m args below meth c g Q nL N k n σ μ (pc + 3) lo st) : Z p l e R s m args below meth c g Q nL N k n σ μ pc lo (zopt (zb g) r :: st) := by
  cases r with
  | none => exact z_ifnonnullN C0 hd (kf rfl)
  | some w => exact z_ifnonnull C0 tgt hd ht (kt w rfl)
theorem z_loc {lo1 : List (Nat × Value)} (h : lo = lo1) (kk : Z p l e R s m args below meth c g Q nL N k n σ μ pc lo1 st) : Z p l e R s m args below meth c g Q nL N k n σ μ pc lo st := h ▸ kk
end ZNUL
/-- answers in pairs, triples .. -/
def zbd2 {α β γ : Type} (a : Option (α × β)) (f : α → β → Option γ) : Option γ := match a with
  | some (x, y) => f x y
  | none => none
theorem zbd2_of {α β γ : Type} {a : Option (α × β)} {f : α → β → Option γ} {r : γ} (h : zbd2 a f = some r) : ∃ x y, a = some (x, y) ∧ f x y = some r := by
  rcases a with _ | ⟨x, y⟩
  · cases h
  · exact ⟨x, y, rfl, h⟩
def zbd3 {α β γ δ : Type} (a : Option (α × β × γ)) (f : α → β → γ → Option δ) : Option δ := match a with
  | some (x, y, z) => f x y z
  | none => none
theorem zbd3_of {α β γ δ : Type} {a : Option (α × β × γ)} {f : α → β → γ → Option δ} {r : δ} (h : zbd3 a f = some r) : ∃ x y z, a = some (x, y, z) ∧ f x y z = some r := by
  rcases a with _ | ⟨x, y, z⟩
  · cases h
  · exact ⟨x, y, z, rfl, h⟩
def zbd4 {α β γ δ ε : Type} (a : Option (α × β × γ × δ)) (f : α → β → γ → δ → Option ε) : Option ε := match a with
  | some (x, y, z, w) => f x y z w
  | none => none
theorem zbd4_of {α β γ δ ε : Type} {a : Option (α × β × γ × δ)} {f : α → β → γ → δ → Option ε} {r : ε} (h : zbd4 a f = some r) : ∃ x y z w, a = some (x, y, z, w) ∧ f x y z w = some r := by
  rcases a with _ | ⟨x, y, z, w⟩
  · cases h
  · exact ⟨x, y, z, w, rfl, h⟩
def zbd5 {α β γ δ ε ζ : Type} (a : Option (α × β × γ × δ × ε)) (f : α → β → γ → δ → ε → Option ζ) : Option ζ := match a with
  | some (x, y, z, w, v) => f x y z w v
  | none => none
theorem zbd5_of {α β γ δ ε ζ : Type} {a : Option (α × β × γ × δ × ε)} {f : α → β → γ → δ → ε → Option ζ} {r : ζ} (h : zbd5 a f = some r) : ∃ x y z w v, a = some (x, y, z, w, v) ∧ f x y z w v = some r := by
  rcases a with _ | ⟨x, y, z, w, v⟩
  · cases h
  · exact ⟨x, y, z, w, v, rfl, h⟩
def zbd6 {α β γ δ ε ζ η : Type} (a : Option (α × β × γ × δ × ε × ζ)) (f : α → β → γ → δ → ε → ζ → Option η) : Option η := match a with
  | some (x, y, z, w, v, u) => f x y z w v u
  | none => none
theorem zbd6_of {α β γ δ ε ζ η : Type} {a : Option (α × β × γ × δ × ε × ζ)} {f : α → β → γ → δ → ε → ζ → Option η} {r : η} (h : zbd6 a f = some r) : ∃ x y z w v u, a = some (x, y, z, w, v, u) ∧ f x y z w v u = some r := by
  rcases a with _ | ⟨x, y, z, w, v, u⟩
  · cases h
  · exact ⟨x, y, z, w, v, u, rfl, h⟩
def zl2 {α β γ : Type} (a : α × β) (f : α → β → γ) : γ := f a.1 a.2
theorem zl2_of {α β γ : Type} {a : α × β} {f : α → β → γ} {r : γ} (h : zl2 a f = r) : ∃ x y, a = (x, y) ∧ f x y = r := ⟨a.1, a.2, rfl, h⟩
def zl3 {α β γ δ : Type} (a : α × β × γ) (f : α → β → γ → δ) : δ := f a.1 a.2.1 a.2.2
theorem zl3_of {α β γ δ : Type} {a : α × β × γ} {f : α → β → γ → δ} {r : δ} (h : zl3 a f = r) : ∃ x y z, a = (x, y, z) ∧ f x y z = r := ⟨a.1, a.2.1, a.2.2, rfl, h⟩
/-- a piece of code that may end the method (inl), or goes on (inr) -/
def zsum {α β γ : Type} (q : α ⊕ β) (f : α → Option γ) (k : β → Option γ) : Option γ := match q with
  | .inl x => f x
  | .inr x => k x
def zFU : Nat := 1000000
def zgk (v : Int32) (ci : Nat) : Bool := decide (0 ≤ v) && (zkd v.toNatClampNeg == ci)
theorem zgk_T {v : Int32} {ci : Nat} (h : zgk v ci = true) (hc : ci < 20) : 0 ≤ v ∧ zT zNN zσ1 v.toNatClampNeg ci := by
  simp only [zgk, Bool.and_eq_true, decide_eq_true_eq, beq_iff_eq] at h
  exact ⟨h.1, zT_of h.2 hc⟩
theorem zgk_A {v : Int32} {kd : Nat} (h : zgk v kd = true) (hc : kd ≠ 99) : 0 ≤ v ∧ zAr zNN v.toNatClampNeg kd (zln v.toNatClampNeg) := by
  simp only [zgk, Bool.and_eq_true, decide_eq_true_eq, beq_iff_eq] at h
  exact ⟨h.1, zkd_lt (by rw [h.2]; exact hc), h.2, rfl⟩
def zgn (w ci : Nat) : Bool := zkd w == ci
theorem zgn_T {w ci : Nat} (h : zgn w ci = true) (hc : ci < 20) : zT zNN zσ1 w ci := zT_of (by simpa [zgn] using h) hc
theorem zsum_l {α β γ : Type} {q : α ⊕ β} {f : α → Option γ} {k : β → Option γ} {r : Option γ} (h : zsum q f k = r) : ∀ t, q = Sum.inl t → f t = r := fun t ht => by subst ht; exact h
theorem zsum_r {α β γ : Type} {q : α ⊕ β} {f : α → Option γ} {k : β → Option γ} {r : Option γ} (h : zsum q f k = r) : ∀ t, q = Sum.inr t → k t = r := fun t ht => by subst ht; exact h
theorem zAr_ln {N b kd len : Nat} (h : zAr N b kd len) : zAr N b kd (zln b) := ⟨h.1, h.2.1, rfl⟩
