/-! THE CLAIM OUT OF ONE WALK OF THE LAW'S BODY. Your part is whole_start (and what it stands on); all else here is the same for every law, but numbers. -/
def R_law : String := "GraveRegattaLaw"
def lw_P (b : Addr) (xs : List Int32) (args : Array Value) (s : State) : Prop := args = #[.ref b] ∧ s.IntsAt b xs ∧ xs.length ≤ 3072 ∧ (Jvm.Cond.and given_1 narrow_1).before args s = true
def lw_Q (_ : Array Value) (s : State) (o : Outcome) (t : State) : Prop := o = .returned (some (.int 1)) ∧ Framed s o t [] 600000 7302250
def lw_Z (below : List Frame) (a : Array Value) (s : State) : State → Prop := fun t => ∃ o, t.status = .running ∧ Ended t below o ∧ lw_Q a s o t
/-- the law's own end, with 1 on the stack, nothing written that was there before, its room as the claim has it -/
theorem lw_ret {p : Program} {l : Launch} {e : Env} {s : State} {m : MethodId} {below : List Frame} {meth : Method} {c : Code} {b : Nat} (hx : p.tables.exec = Jvm.exec) (hb : c.code = code) (hr : meth.sig.returnType = ret) (hlocks : meth.locks = false) {pc : Nat} {H : Heap} {ls : Array _root_.Jvm.Slot} (hdg : decode code pc = .ok (.ireturn, 1)) : W p l e room_1 s m #[Value.ref b] below meth c H [] 600000 7302250 (lw_Z below #[Value.ref b] s) (F0 m pc ls [.int 1]) := by
  intro T hT X
  obtain ⟨fs, hret, hrun, hended, hW, hframe⟩ := X.leave (v := some (.int 1)) (hlocks := hlocks) (fun h => by rw [hr] at h; cases h)
  have hmeth' : T.vm.method? m = some meth := X.method'
  refine ⟨T.setFrames fs, ?_, .returned (some (.int 1)), hrun, hended, rfl, ⟨_, rfl⟩, hW, hframe⟩
  jvm_step X.here [X.here.top, hx, hb, hdg, hmeth', hr, ret, narrow_b1]
  (try refine ⟨rfl, ?_⟩); (try refine ⟨rfl, ?_⟩)
  first | (intro acts; rw [hret _ acts rfl rfl rfl]) | rw [hret _ _ rfl rfl rfl]
  exact Steps.refl _
/-- what holds at the law's entry: the machine, the code, the tables' words (any of lw_tbl by 'hts w (by decide +kernel)'), the script of L ints xs at the cell b, what the Statement gives of the start (any of its parts by flat_of_before) -/
def lw_At (p : Program) (s : State) (m : MethodId) (meth : Method) (c : Code) (b L : Nat) (xs : Nat → Int32) : Prop :=
  p.tables.exec = Jvm.exec ∧ c.code = code ∧ meth.sig.returnType = ret ∧ c.maxLocals = 4 ∧ s.vm.findClass R_law = some m.cls ∧ (∀ w ∈ lw_tbl, w.before #[Value.ref b] s = true) ∧ va_X b L xs s s.heap ∧ b < s.heap.size ∧ meth.locks = false ∧ (Jvm.Cond.and given_1 narrow_1).before #[Value.ref b] s = true

/-! THE LAW'S WALK (by program: tools/gen9i.py) -/
/-- the law's own end, in any room -/
theorem lw_retR {p : Program} {l : Launch} {e : Env} {R : Room} {s : State} {m : MethodId} {below : List Frame} {meth : Method} {c : Code} {b : Nat} (hx : p.tables.exec = Jvm.exec) (hb : c.code = code) (hr : meth.sig.returnType = ret) (hlocks : meth.locks = false) {pc : Nat} {H : Heap} {ls : Array _root_.Jvm.Slot} (hdg : decode code pc = .ok (.ireturn, 1)) : W p l e R s m #[Value.ref b] below meth c H [] 600000 7302250 (lw_Z below #[Value.ref b] s) (F0 m pc ls [.int 1]) := by
  intro T hT X
  obtain ⟨fs, hret, hrun, hended, hW, hframe⟩ := X.leave (v := some (.int 1)) (hlocks := hlocks) (fun h => by rw [hr] at h; cases h)
  have hmeth' : T.vm.method? m = some meth := X.method'
  refine ⟨T.setFrames fs, ?_, .returned (some (.int 1)), hrun, hended, rfl, ⟨_, rfl⟩, hW, hframe⟩
  jvm_step X.here [X.here.top, hx, hb, hdg, hmeth', hr, ret, narrow_b1]
  (try refine ⟨rfl, ?_⟩); (try refine ⟨rfl, ?_⟩)
  first | (intro acts; rw [hret _ acts rfl rfl rfl]) | rw [hret _ _ rfl rfl rfl]
  exact Steps.refl _
theorem lw_room {p : Program} {l : Launch} {e : Env} {R R' : Room} {s : State} {m : MethodId} {args : Array Value} {below : List Frame} {meth : Method} {c : Code} {H : Heap} {locs : List Loc} {cells slots : Nat} {Q : State → Prop} {q : JFrame} (h1 : R'.frames ≤ R.frames) (h2 : R'.locals ≤ R.locals) (h3 : R'.cells ≤ R.cells) (h4 : R'.slots ≤ R.slots) (kk : W p l e R' s m args below meth c H locs cells slots Q q) : W p l e R s m args below meth c H locs cells slots Q q := by
  intro T hT X
  have hr : s.hasRoom e.platform R' = true := by
    have h := X.room
    simp only [State.hasRoom, Bool.and_eq_true, decide_eq_true_eq] at h ⊢
    obtain ⟨⟨⟨⟨y, a, b, c, d, e⟩, f⟩, g⟩, i⟩ := h
    exact ⟨⟨⟨⟨by omega, by omega, by omega, by omega, by omega, e⟩, by omega⟩, by omega⟩, i⟩
  exact kk T hT { X with room := hr }
theorem lw_hT11 : zT zNN zσ1 0 11 := zT_of (by decide +kernel) (by decide)
theorem lw_hT12 : zT zNN zσ1 310 12 := zT_of (by decide +kernel) (by decide)
theorem and31 (x : Int32) : ∃ d : Nat, d < 32 ∧ x &&& 31 = nI d := by
  refine ⟨x.toBitVec.toNat % 32, Nat.mod_lt _ (by decide), ?_⟩
  apply Int32.toBitVec_inj.mp
  rw [Int32.toBitVec_and, nI_bv]
  apply BitVec.eq_of_toNat_eq
  rw [BitVec.toNat_and, BitVec.toNat_ofNat]
  show x.toBitVec.toNat &&& 31 = _
  rw [show (31 : Nat) = 2 ^ 5 - 1 from rfl, Nat.and_two_pow_sub_one_eq_mod]
  omega
theorem vM_of {f : zM → Option Int32} {μ μ1 : zM} {r : Int32} (h : vM f μ = some (r, μ1)) : f μ = some r ∧ μ = μ1 := by
  unfold vM at h
  cases hf : f μ with
  | none => rw [hf] at h; cases h
  | some v =>
    rw [hf] at h
    cases h
    exact ⟨rfl, rfl⟩
def lwV (xs : Nat → Int32) (i : Int32) (z : Int) : Int32 := xs (i + Int32.ofInt z).toNatClampNeg
def lwI (i : Int32) (L : Nat) : Prop := ∀ z : Int, 0 ≤ z → z ≤ 5 → vp_in (i + Int32.ofInt z) L
theorem vp_nI {n L : Nat} (h : n < L) (hL : L ≤ 3072) : vp_in (nI n) L := by
  have e := nI_int (n := n) (by omega)
  rintro (q | q)
  · have := Int32.lt_iff_toInt_lt.mp q
    rw [e] at this
    have z : (0 : Int32).toInt = 0 := by decide
    rw [z] at this
    omega
  · have : (nI n).toNatClampNeg = n := by
      show (nI n).toInt.toNat = n
      rw [e]
      omega
    omega
theorem lwI_of {t L : Nat} (h : 6 * t + 6 ≤ L) (hL : L ≤ 3072) : lwI (nI (6 * t)) L := by
  intro z h0 h5
  have go : ∀ k : Nat, k ≤ 5 → Int32.ofInt z = nI k → vp_in (nI (6 * t) + Int32.ofInt z) L := fun k hk e => by
    rw [e, nI_add]
    exact vp_nI (by omega) hL
  rcases (by omega : z = 0 ∨ z = 1 ∨ z = 2 ∨ z = 3 ∨ z = 4 ∨ z = 5) with q | q | q | q | q | q
  · exact go 0 (by omega) (by rw [q]; rfl)
  · exact go 1 (by omega) (by rw [q]; rfl)
  · exact go 2 (by omega) (by rw [q]; rfl)
  · exact go 3 (by omega) (by rw [q]; rfl)
  · exact go 4 (by omega) (by rw [q]; rfl)
  · exact go 5 (by omega) (by rw [q]; rfl)
theorem lw_gt {t L : Nat} (ht : 6 * t ≤ L) (hL : L ≤ 3072) (h : ¬ (Int32.ofNat L - 6 < nI (6 * t))) : 6 * t + 6 ≤ L := by
  apply Classical.byContradiction
  intro c
  apply h
  apply Int32.lt_iff_toInt_lt.mpr
  have e1 : (Int32.ofNat L).toInt = L := nI_int (n := L) (by omega)
  have e2 := nI_int (n := 6 * t) (by omega)
  have e3 : (6 : Int32).toInt = 6 := by decide
  rw [Int32.toInt_sub, e1, e2, e3, Int.bmod_eq_of_le (by omega) (by omega)]
  omega
section LAW
variable {p : Program} {l : Launch} {e : Env} {s : State} {m : MethodId} {b : Nat} {below : List Frame} {meth : Method} {c : Code} {g : zL} {κ : zK} {Q : State → Prop} {L : Nat} {xs : Nat → Int32} {μ : zM} {i : Int32} {pc : Nat} {st : List Value}
abbrev lwR : Room := zrm 1312 600000 7302250
abbrev lwY (meth : Method) : MethodName := ⟨RL, meth.name, ""⟩
abbrev lwLo (g : zL) (b : Nat) (i : Int32) : List (Nat × Value) := [(3, .int i), (2, .ref (zb g + 310)), (1, .ref (zb g + 0)), (0, .ref b)]
def lwX (p : Program) (s : State) (m : MethodId) (b : Nat) (meth : Method) (c : Code) (g : zL) (κ : zK) (L : Nat) (xs : Nat → Int32) : Prop := zC p s m #[Value.ref b] meth c g cL_law (lwY meth) 4 ret ∧ zSK g κ ∧ va_X b L xs s s.heap ∧ b < s.heap.size ∧ zb g = s.heap.size
theorem lwX.C0 (X : lwX p s m b meth c g κ L xs) : zC p s m #[Value.ref b] meth c g cL_law (lwY meth) 4 ret := X.1
theorem lwX.hSp (X : lwX p s m b meth c g κ L xs) : zSK g κ := X.2.1
theorem lwX.hX (X : lwX p s m b meth c g κ L xs) : va_X b L xs s s.heap := X.2.2.1
theorem lwX.hbl (X : lwX p s m b meth c g κ L xs) : b < s.heap.size := X.2.2.2.1
theorem lwX.hb (X : lwX p s m b meth c g κ L xs) : zb g = s.heap.size := X.2.2.2.2
theorem lwX.hbA (X : lwX p s m b meth c g κ L xs) : ¬ zA g b := by
  show ¬ zb g ≤ b
  rw [X.hb]
  exact Nat.not_le.mpr X.hbl
abbrev LZ (p : Program) (l : Launch) (e : Env) (s : State) (m : MethodId) (b : Nat) (below : List Frame) (meth : Method) (c : Code) (g : zL) (Q : State → Prop) (μ : zM) (pc : Nat) (i : Int32) (st : List Value) : Prop := Z p l e lwR s m #[Value.ref b] below meth c g Q 4 zNN 324 150482 zσ1 μ pc (lwLo g b i) st
theorem z_sldL (X : lwX p s m b meth c g κ L xs) {x : Int32} (hin : vp_in x L) (hd : decode cL_law pc = .ok (.iaload, 1)) (kk : LZ p l e s m b below meth c g Q μ (pc + 1) i (.int (xs x.toNatClampNeg) :: st)) : LZ p l e s m b below meth c g Q μ pc i (.int x :: .ref b :: st) := fun H locs ls hR hS hl => va_sld X.C0.1.1 X.C0.1.2.1 X.hX X.hbl X.hbA hS hin hd (kk H locs ls hR hS hl)
theorem z_slenL (X : lwX p s m b meth c g κ L xs) (hd : decode cL_law pc = .ok (.arraylength, 1)) (kk : LZ p l e s m b below meth c g Q μ (pc + 1) i (.int (Int32.ofNat L) :: st)) : LZ p l e s m b below meth c g Q μ pc i (.ref b :: st) := fun H locs ls hR hS hl => va_slen X.C0.1.1 X.C0.1.2.1 X.hX X.hbl X.hbA hS hd (kk H locs ls hR hS hl)
theorem z_argL (X : lwX p s m b meth c g κ L xs) (hI : lwI i L) {z : Int} (h0 : 0 ≤ z) (h5 : z ≤ 5) (d1 : decode cL_law pc = .ok (.aload_n 0, 1)) (d2 : decode cL_law (pc + 1) = .ok (.iload_n 3, 1)) (d3 : decode cL_law (pc + 2) = .ok (.iconst z, 1)) (d4 : decode cL_law (pc + 3) = .ok (.iadd, 1)) (d5 : decode cL_law (pc + 4) = .ok (.iaload, 1)) (kk : LZ p l e s m b below meth c g Q μ (pc + 5) i (.int (lwV xs i z) :: st)) : LZ p l e s m b below meth c g Q μ pc i st := by
  refine z_aload_n X.C0 d1 rfl 3 rfl ?_
  refine z_iload_n X.C0 d2 rfl 0 rfl ?_
  refine z_iconst X.C0 d3 rfl ?_
  refine z_iadd X.C0 d4 ?_
  exact z_sldL X (hI z h0 h5) d5 kk
theorem z_boolL (X : lwX p s m b meth c g κ L xs) {x : Int32} (d0 : decode cL_law pc = .ok (.ifCond .eq 7, 3)) (d1 : decode cL_law (pc + 3) = .ok (.iconst 1, 1)) (d2 : decode cL_law (pc + 4) = .ok (.goto 4, 3)) (d3 : decode cL_law (pc + 7) = .ok (.iconst 0, 1)) (kk : LZ p l e s m b below meth c g Q μ (pc + 8) i (.int (if x = 0 then 0 else 1) :: st)) : LZ p l e s m b below meth c g Q μ pc i (.int x :: st) := by
  refine z_if_eq X.C0 (pc + 7) d0 (by omega) (fun h => ?_) (fun h => ?_)
  · rw [if_pos h] at kk
    exact z_iconst X.C0 d3 rfl kk
  · rw [if_neg h] at kk
    refine z_iconst X.C0 d1 rfl ?_
    exact z_goto X.C0 (pc + 8) d2 (by omega) kk
theorem lw_c0 (X : lwX p s m b meth c g κ L xs) (hI : lwI i L) (hM : Inv μ) (K : ∀ μ2, Inv μ2 → LZ p l e s m b below meth c g Q μ2 1461 i []) : LZ p l e s m b below meth c g Q μ 172 i [] := by
  obtain ⟨rr, μ1, μ2, e1, e2, h2⟩ := feed_same (lwV xs i 1) (lwV xs i 2) (lwV xs i 3) (lwV xs i 4) (lwV xs i 5) μ hM
  refine z_aload_n X.C0 dL_law_172 rfl 2 rfl ?_
  refine z_argL X hI (by decide) (by decide) dL_law_173 dL_law_174 dL_law_175 dL_law_176 dL_law_177 ?_
  refine z_argL X hI (by decide) (by decide) dL_law_178 dL_law_179 dL_law_180 dL_law_181 dL_law_182 ?_
  refine z_argL X hI (by decide) (by decide) dL_law_183 dL_law_184 dL_law_185 dL_law_186 dL_law_187 ?_
  refine z_argL X hI (by decide) (by decide) dL_law_188 dL_law_189 dL_law_190 dL_law_191 dL_law_192 ?_
  refine z_argL X hI (by decide) (by decide) dL_law_193 dL_law_194 dL_law_195 dL_law_196 dL_law_197 ?_
  refine z_callV X.C0 rfl kc_X11_feed km_RL_13 (r_X11_feed 0 _ _ _ _ _ μ lw_hT11 e1) lw_hT11.1 (by decide) rfl (by decide) rfl (Nat.le_of_ble_eq_true rfl) (Nat.le_of_ble_eq_true rfl) (Nat.le_of_ble_eq_true rfl) (Nat.le_of_ble_eq_true rfl) (Nat.le_refl _) rfl rfl dL_law_198 ?_
  refine z_aload_n X.C0 dL_law_201 rfl 1 rfl ?_
  refine z_argL X hI (by decide) (by decide) dL_law_202 dL_law_203 dL_law_204 dL_law_205 dL_law_206 ?_
  refine z_argL X hI (by decide) (by decide) dL_law_207 dL_law_208 dL_law_209 dL_law_210 dL_law_211 ?_
  refine z_argL X hI (by decide) (by decide) dL_law_212 dL_law_213 dL_law_214 dL_law_215 dL_law_216 ?_
  refine z_argL X hI (by decide) (by decide) dL_law_217 dL_law_218 dL_law_219 dL_law_220 dL_law_221 ?_
  refine z_argL X hI (by decide) (by decide) dL_law_222 dL_law_223 dL_law_224 dL_law_225 dL_law_226 ?_
  refine z_callV X.C0 rfl kc_X12_feed km_RL_17 (r_X12_feed 310 _ _ _ _ _ μ1 lw_hT12 e2) lw_hT12.1 (by decide) rfl (by decide) rfl (Nat.le_of_ble_eq_true rfl) (Nat.le_of_ble_eq_true rfl) (Nat.le_of_ble_eq_true rfl) (Nat.le_of_ble_eq_true rfl) (Nat.le_refl _) rfl rfl dL_law_227 ?_
  exact z_icmp_eq X.C0 1461 dL_law_230 (by decide) (fun _ => K _ h2) (fun h => absurd rfl h)
theorem lw_c1 (X : lwX p s m b meth c g κ L xs) (hI : lwI i L) (hM : Inv μ) (K : ∀ μ2, Inv μ2 → LZ p l e s m b below meth c g Q μ2 1461 i []) : LZ p l e s m b below meth c g Q μ 235 i [] := by
  obtain ⟨rr, μ1, μ2, e1, e2, h2⟩ := end_same (lwV xs i 1) μ hM
  have e1 := Option.some.inj e1
  have e2 := Option.some.inj e2
  refine z_aload_n X.C0 dL_law_235 rfl 2 rfl ?_
  refine z_argL X hI (by decide) (by decide) dL_law_236 dL_law_237 dL_law_238 dL_law_239 dL_law_240 ?_
  refine z_callV X.C0 rfl kc_X11_end km_RL_18 (r_X11_end 0 _ μ lw_hT11 e1) lw_hT11.1 (by decide) rfl (by decide) rfl (Nat.le_of_ble_eq_true rfl) (Nat.le_of_ble_eq_true rfl) (Nat.le_of_ble_eq_true rfl) (Nat.le_of_ble_eq_true rfl) (Nat.le_refl _) rfl rfl dL_law_241 ?_
  refine z_aload_n X.C0 dL_law_244 rfl 1 rfl ?_
  refine z_argL X hI (by decide) (by decide) dL_law_245 dL_law_246 dL_law_247 dL_law_248 dL_law_249 ?_
  refine z_callV X.C0 rfl kc_X12_end km_RL_22 (r_X12_end 310 _ μ1 lw_hT12 e2) lw_hT12.1 (by decide) rfl (by decide) rfl (Nat.le_of_ble_eq_true rfl) (Nat.le_of_ble_eq_true rfl) (Nat.le_of_ble_eq_true rfl) (Nat.le_of_ble_eq_true rfl) (Nat.le_refl _) rfl rfl dL_law_250 ?_
  exact z_icmp_eq X.C0 1461 dL_law_253 (by decide) (fun _ => K _ h2) (fun h => absurd rfl h)
theorem lw_c2 (X : lwX p s m b meth c g κ L xs) (hI : lwI i L) (hM : Inv μ) (K : ∀ μ2, Inv μ2 → LZ p l e s m b below meth c g Q μ2 1461 i []) : LZ p l e s m b below meth c g Q μ 258 i [] := by
  obtain ⟨rr, μ1, μ2, e1, e2, h2⟩ := text_same (lwV xs i 1) (lwV xs i 2) μ hM
  refine z_aload_n X.C0 dL_law_258 rfl 2 rfl ?_
  refine z_argL X hI (by decide) (by decide) dL_law_259 dL_law_260 dL_law_261 dL_law_262 dL_law_263 ?_
  refine z_argL X hI (by decide) (by decide) dL_law_264 dL_law_265 dL_law_266 dL_law_267 dL_law_268 ?_
  refine z_callV X.C0 rfl kc_X11_text km_RL_23 (r_X11_text 0 _ _ μ lw_hT11 X.hSp e1) lw_hT11.1 (by decide) rfl (by decide) rfl (Nat.le_of_ble_eq_true rfl) (Nat.le_of_ble_eq_true rfl) (Nat.le_of_ble_eq_true rfl) (Nat.le_of_ble_eq_true rfl) (Nat.le_refl _) rfl rfl dL_law_269 ?_
  refine z_aload_n X.C0 dL_law_272 rfl 1 rfl ?_
  refine z_argL X hI (by decide) (by decide) dL_law_273 dL_law_274 dL_law_275 dL_law_276 dL_law_277 ?_
  refine z_argL X hI (by decide) (by decide) dL_law_278 dL_law_279 dL_law_280 dL_law_281 dL_law_282 ?_
  refine z_callV X.C0 rfl kc_X12_text km_RL_27 (r_X12_text 310 _ _ μ1 lw_hT12 X.hSp e2) lw_hT12.1 (by decide) rfl (by decide) rfl (Nat.le_of_ble_eq_true rfl) (Nat.le_of_ble_eq_true rfl) (Nat.le_of_ble_eq_true rfl) (Nat.le_of_ble_eq_true rfl) (Nat.le_refl _) rfl rfl dL_law_283 ?_
  exact z_icmp_eq X.C0 1461 dL_law_286 (by decide) (fun _ => K _ h2) (fun h => absurd rfl h)
theorem lw_c3 (X : lwX p s m b meth c g κ L xs) (hI : lwI i L) (hM : Inv μ) (K : ∀ μ2, Inv μ2 → LZ p l e s m b below meth c g Q μ2 1461 i []) : LZ p l e s m b below meth c g Q μ 291 i [] := by
  obtain ⟨rr, μ1, μ2, e1, e2, h2⟩ := fault_same (lwV xs i 1) μ hM
  simp only [Option.some.injEq, Prod.mk.injEq] at e1 e2
  obtain ⟨e1, rfl⟩ := e1
  obtain ⟨e2, rfl⟩ := e2
  refine z_aload_n X.C0 dL_law_291 rfl 2 rfl ?_
  refine z_argL X hI (by decide) (by decide) dL_law_292 dL_law_293 dL_law_294 dL_law_295 dL_law_296 ?_
  refine z_callV X.C0 rfl kc_X11_fault km_RL_28 (r_X11_fault 0 _ μ lw_hT11 e1) lw_hT11.1 (by decide) rfl (by decide) rfl (Nat.le_of_ble_eq_true rfl) (Nat.le_of_ble_eq_true rfl) (Nat.le_of_ble_eq_true rfl) (Nat.le_of_ble_eq_true rfl) (Nat.le_refl _) rfl rfl dL_law_297 ?_
  refine z_aload_n X.C0 dL_law_300 rfl 1 rfl ?_
  refine z_argL X hI (by decide) (by decide) dL_law_301 dL_law_302 dL_law_303 dL_law_304 dL_law_305 ?_
  refine z_callV X.C0 rfl kc_X12_fault km_RL_31 (r_X12_fault 310 _ μ lw_hT12 e2) lw_hT12.1 (by decide) rfl (by decide) rfl (Nat.le_of_ble_eq_true rfl) (Nat.le_of_ble_eq_true rfl) (Nat.le_of_ble_eq_true rfl) (Nat.le_of_ble_eq_true rfl) (Nat.le_refl _) rfl rfl dL_law_306 ?_
  exact z_icmp_eq X.C0 1461 dL_law_309 (by decide) (fun _ => K _ h2) (fun h => absurd rfl h)
theorem lw_c4 (X : lwX p s m b meth c g κ L xs) (hI : lwI i L) (hM : Inv μ) (K : ∀ μ2, Inv μ2 → LZ p l e s m b below meth c g Q μ2 1461 i []) : LZ p l e s m b below meth c g Q μ 314 i [] := by
  obtain ⟨rr, μ1, μ2, e1, e2, h2⟩ := lake_same (lwV xs i 1) (lwV xs i 2) μ hM
  obtain ⟨f1, rfl⟩ := vM_of e1
  refine z_aload_n X.C0 dL_law_314 rfl 2 rfl ?_
  refine z_argL X hI (by decide) (by decide) dL_law_315 dL_law_316 dL_law_317 dL_law_318 dL_law_319 ?_
  refine z_argL X hI (by decide) (by decide) dL_law_320 dL_law_321 dL_law_322 dL_law_323 dL_law_324 ?_
  refine z_callV X.C0 rfl kc_X11_lake km_RL_32 (r_X11_lake 0 _ _ μ lw_hT11 f1) lw_hT11.1 (by decide) rfl (by decide) rfl (Nat.le_of_ble_eq_true rfl) (Nat.le_of_ble_eq_true rfl) (Nat.le_of_ble_eq_true rfl) (Nat.le_of_ble_eq_true rfl) (Nat.le_refl _) rfl rfl dL_law_325 ?_
  refine z_aload_n X.C0 dL_law_328 rfl 1 rfl ?_
  refine z_argL X hI (by decide) (by decide) dL_law_329 dL_law_330 dL_law_331 dL_law_332 dL_law_333 ?_
  refine z_argL X hI (by decide) (by decide) dL_law_334 dL_law_335 dL_law_336 dL_law_337 dL_law_338 ?_
  refine z_callV X.C0 rfl kc_X12_lake km_RL_35 (r_X12_lake 310 _ _ μ lw_hT12 e2) lw_hT12.1 (by decide) rfl (by decide) rfl (Nat.le_of_ble_eq_true rfl) (Nat.le_of_ble_eq_true rfl) (Nat.le_of_ble_eq_true rfl) (Nat.le_of_ble_eq_true rfl) (Nat.le_refl _) rfl rfl dL_law_339 ?_
  exact z_icmp_eq X.C0 1461 dL_law_342 (by decide) (fun _ => K _ h2) (fun h => absurd rfl h)
theorem lw_c5 (X : lwX p s m b meth c g κ L xs) (hI : lwI i L) (hM : Inv μ) (K : ∀ μ2, Inv μ2 → LZ p l e s m b below meth c g Q μ2 1461 i []) : LZ p l e s m b below meth c g Q μ 347 i [] := by
  obtain ⟨rr, μ1, μ2, e1, e2, h2⟩ := deed_same (lwV xs i 1) (lwV xs i 2) (lwV xs i 3) μ hM
  obtain ⟨f1, rfl⟩ := vM_of e1
  refine z_aload_n X.C0 dL_law_347 rfl 2 rfl ?_
  refine z_argL X hI (by decide) (by decide) dL_law_348 dL_law_349 dL_law_350 dL_law_351 dL_law_352 ?_
  refine z_argL X hI (by decide) (by decide) dL_law_353 dL_law_354 dL_law_355 dL_law_356 dL_law_357 ?_
  refine z_argL X hI (by decide) (by decide) dL_law_358 dL_law_359 dL_law_360 dL_law_361 dL_law_362 ?_
  refine z_callV X.C0 rfl kc_X11_deed km_RL_36 (r_X11_deed 0 _ _ _ μ lw_hT11 f1) lw_hT11.1 (by decide) rfl (by decide) rfl (Nat.le_of_ble_eq_true rfl) (Nat.le_of_ble_eq_true rfl) (Nat.le_of_ble_eq_true rfl) (Nat.le_of_ble_eq_true rfl) (Nat.le_refl _) rfl rfl dL_law_363 ?_
  refine z_aload_n X.C0 dL_law_366 rfl 1 rfl ?_
  refine z_argL X hI (by decide) (by decide) dL_law_367 dL_law_368 dL_law_369 dL_law_370 dL_law_371 ?_
  refine z_argL X hI (by decide) (by decide) dL_law_372 dL_law_373 dL_law_374 dL_law_375 dL_law_376 ?_
  refine z_argL X hI (by decide) (by decide) dL_law_377 dL_law_378 dL_law_379 dL_law_380 dL_law_381 ?_
  refine z_callV X.C0 rfl kc_X12_deed km_RL_40 (r_X12_deed 310 _ _ _ μ lw_hT12 e2) lw_hT12.1 (by decide) rfl (by decide) rfl (Nat.le_of_ble_eq_true rfl) (Nat.le_of_ble_eq_true rfl) (Nat.le_of_ble_eq_true rfl) (Nat.le_of_ble_eq_true rfl) (Nat.le_refl _) rfl rfl dL_law_382 ?_
  exact z_icmp_eq X.C0 1461 dL_law_385 (by decide) (fun _ => K _ h2) (fun h => absurd rfl h)
theorem lw_c6 (X : lwX p s m b meth c g κ L xs) (hI : lwI i L) (hM : Inv μ) (K : ∀ μ2, Inv μ2 → LZ p l e s m b below meth c g Q μ2 1461 i []) : LZ p l e s m b below meth c g Q μ 390 i [] := by
  obtain ⟨rr, μ1, μ2, e1, e2, h2⟩ := stop_same (lwV xs i 1) (lwV xs i 2) μ hM
  refine z_aload_n X.C0 dL_law_390 rfl 2 rfl ?_
  refine z_argL X hI (by decide) (by decide) dL_law_391 dL_law_392 dL_law_393 dL_law_394 dL_law_395 ?_
  refine z_argL X hI (by decide) (by decide) dL_law_396 dL_law_397 dL_law_398 dL_law_399 dL_law_400 ?_
  refine z_callV X.C0 rfl kc_X11_stop km_RL_41 (r_X11_stop 0 _ _ μ lw_hT11 e1) lw_hT11.1 (by decide) rfl (by decide) rfl (Nat.le_of_ble_eq_true rfl) (Nat.le_of_ble_eq_true rfl) (Nat.le_of_ble_eq_true rfl) (Nat.le_of_ble_eq_true rfl) (Nat.le_refl _) rfl rfl dL_law_401 ?_
  refine z_aload_n X.C0 dL_law_404 rfl 1 rfl ?_
  refine z_argL X hI (by decide) (by decide) dL_law_405 dL_law_406 dL_law_407 dL_law_408 dL_law_409 ?_
  refine z_argL X hI (by decide) (by decide) dL_law_410 dL_law_411 dL_law_412 dL_law_413 dL_law_414 ?_
  refine z_callV X.C0 rfl kc_X12_stop km_RL_44 (r_X12_stop 310 _ _ μ1 lw_hT12 e2) lw_hT12.1 (by decide) rfl (by decide) rfl (Nat.le_of_ble_eq_true rfl) (Nat.le_of_ble_eq_true rfl) (Nat.le_of_ble_eq_true rfl) (Nat.le_of_ble_eq_true rfl) (Nat.le_refl _) rfl rfl dL_law_415 ?_
  exact z_icmp_eq X.C0 1461 dL_law_418 (by decide) (fun _ => K _ h2) (fun h => absurd rfl h)
theorem lw_c7 (X : lwX p s m b meth c g κ L xs) (hI : lwI i L) (hM : Inv μ) (K : ∀ μ2, Inv μ2 → LZ p l e s m b below meth c g Q μ2 1461 i []) : LZ p l e s m b below meth c g Q μ 423 i [] := by
  obtain ⟨rr, μ1, μ2, e1, e2, h2⟩ := state_same (lwV xs i 1) (lwV xs i 2) (lwV xs i 3) (lwV xs i 4) μ hM
  refine z_aload_n X.C0 dL_law_423 rfl 2 rfl ?_
  refine z_argL X hI (by decide) (by decide) dL_law_424 dL_law_425 dL_law_426 dL_law_427 dL_law_428 ?_
  refine z_argL X hI (by decide) (by decide) dL_law_429 dL_law_430 dL_law_431 dL_law_432 dL_law_433 ?_
  refine z_argL X hI (by decide) (by decide) dL_law_434 dL_law_435 dL_law_436 dL_law_437 dL_law_438 ?_
  refine z_argL X hI (by decide) (by decide) dL_law_439 dL_law_440 dL_law_441 dL_law_442 dL_law_443 ?_
  refine z_callV X.C0 rfl kc_X11_state km_RL_45 (r_X11_state 0 _ _ _ _ μ lw_hT11 e1) lw_hT11.1 (by decide) rfl (by decide) rfl (Nat.le_of_ble_eq_true rfl) (Nat.le_of_ble_eq_true rfl) (Nat.le_of_ble_eq_true rfl) (Nat.le_of_ble_eq_true rfl) (Nat.le_refl _) rfl rfl dL_law_444 ?_
  refine z_aload_n X.C0 dL_law_447 rfl 1 rfl ?_
  refine z_argL X hI (by decide) (by decide) dL_law_448 dL_law_449 dL_law_450 dL_law_451 dL_law_452 ?_
  refine z_argL X hI (by decide) (by decide) dL_law_453 dL_law_454 dL_law_455 dL_law_456 dL_law_457 ?_
  refine z_argL X hI (by decide) (by decide) dL_law_458 dL_law_459 dL_law_460 dL_law_461 dL_law_462 ?_
  refine z_argL X hI (by decide) (by decide) dL_law_463 dL_law_464 dL_law_465 dL_law_466 dL_law_467 ?_
  refine z_callV X.C0 rfl kc_X12_state km_RL_49 (r_X12_state 310 _ _ _ _ μ1 lw_hT12 e2) lw_hT12.1 (by decide) rfl (by decide) rfl (Nat.le_of_ble_eq_true rfl) (Nat.le_of_ble_eq_true rfl) (Nat.le_of_ble_eq_true rfl) (Nat.le_of_ble_eq_true rfl) (Nat.le_refl _) rfl rfl dL_law_468 ?_
  exact z_icmp_eq X.C0 1461 dL_law_471 (by decide) (fun _ => K _ h2) (fun h => absurd rfl h)
theorem lw_c8 (X : lwX p s m b meth c g κ L xs) (hI : lwI i L) (hM : Inv μ) (K : ∀ μ2, Inv μ2 → LZ p l e s m b below meth c g Q μ2 1461 i []) : LZ p l e s m b below meth c g Q μ 476 i [] := by
  obtain ⟨rr, μ1, μ2, e1, e2, h2⟩ := list_same (lwV xs i 1) (lwV xs i 2) (lwV xs i 3) (lwV xs i 4) μ hM
  refine z_aload_n X.C0 dL_law_476 rfl 2 rfl ?_
  refine z_argL X hI (by decide) (by decide) dL_law_477 dL_law_478 dL_law_479 dL_law_480 dL_law_481 ?_
  refine z_argL X hI (by decide) (by decide) dL_law_482 dL_law_483 dL_law_484 dL_law_485 dL_law_486 ?_
  refine z_argL X hI (by decide) (by decide) dL_law_487 dL_law_488 dL_law_489 dL_law_490 dL_law_491 ?_
  refine z_argL X hI (by decide) (by decide) dL_law_492 dL_law_493 dL_law_494 dL_law_495 dL_law_496 ?_
  refine z_callV X.C0 rfl kc_X11_list km_RL_50 (r_X11_list 0 _ _ _ _ μ lw_hT11 e1) lw_hT11.1 (by decide) rfl (by decide) rfl (Nat.le_of_ble_eq_true rfl) (Nat.le_of_ble_eq_true rfl) (Nat.le_of_ble_eq_true rfl) (Nat.le_of_ble_eq_true rfl) (Nat.le_refl _) rfl rfl dL_law_497 ?_
  refine z_aload_n X.C0 dL_law_500 rfl 1 rfl ?_
  refine z_argL X hI (by decide) (by decide) dL_law_501 dL_law_502 dL_law_503 dL_law_504 dL_law_505 ?_
  refine z_argL X hI (by decide) (by decide) dL_law_506 dL_law_507 dL_law_508 dL_law_509 dL_law_510 ?_
  refine z_argL X hI (by decide) (by decide) dL_law_511 dL_law_512 dL_law_513 dL_law_514 dL_law_515 ?_
  refine z_argL X hI (by decide) (by decide) dL_law_516 dL_law_517 dL_law_518 dL_law_519 dL_law_520 ?_
  refine z_callV X.C0 rfl kc_X12_list km_RL_53 (r_X12_list 310 _ _ _ _ μ1 lw_hT12 e2) lw_hT12.1 (by decide) rfl (by decide) rfl (Nat.le_of_ble_eq_true rfl) (Nat.le_of_ble_eq_true rfl) (Nat.le_of_ble_eq_true rfl) (Nat.le_of_ble_eq_true rfl) (Nat.le_refl _) rfl rfl dL_law_521 ?_
  exact z_icmp_eq X.C0 1461 dL_law_524 (by decide) (fun _ => K _ h2) (fun h => absurd rfl h)
theorem lw_c9 (X : lwX p s m b meth c g κ L xs) (hI : lwI i L) (hM : Inv μ) (K : ∀ μ2, Inv μ2 → LZ p l e s m b below meth c g Q μ2 1461 i []) : LZ p l e s m b below meth c g Q μ 529 i [] := by
  obtain ⟨rr, μ1, μ2, e1, e2, h2⟩ := drift_same (lwV xs i 1) (lwV xs i 2) (lwV xs i 3) (lwV xs i 4) μ hM
  refine z_aload_n X.C0 dL_law_529 rfl 2 rfl ?_
  refine z_argL X hI (by decide) (by decide) dL_law_530 dL_law_531 dL_law_532 dL_law_533 dL_law_534 ?_
  refine z_argL X hI (by decide) (by decide) dL_law_535 dL_law_536 dL_law_537 dL_law_538 dL_law_539 ?_
  refine z_argL X hI (by decide) (by decide) dL_law_540 dL_law_541 dL_law_542 dL_law_543 dL_law_544 ?_
  refine z_argL X hI (by decide) (by decide) dL_law_545 dL_law_546 dL_law_547 dL_law_548 dL_law_549 ?_
  refine z_callV X.C0 rfl kc_X11_drift km_RL_54 (r_X11_drift 0 _ _ _ _ μ lw_hT11 e1) lw_hT11.1 (by decide) rfl (by decide) rfl (Nat.le_of_ble_eq_true rfl) (Nat.le_of_ble_eq_true rfl) (Nat.le_of_ble_eq_true rfl) (Nat.le_of_ble_eq_true rfl) (Nat.le_refl _) rfl rfl dL_law_550 ?_
  refine z_aload_n X.C0 dL_law_553 rfl 1 rfl ?_
  refine z_argL X hI (by decide) (by decide) dL_law_554 dL_law_555 dL_law_556 dL_law_557 dL_law_558 ?_
  refine z_argL X hI (by decide) (by decide) dL_law_559 dL_law_560 dL_law_561 dL_law_562 dL_law_563 ?_
  refine z_argL X hI (by decide) (by decide) dL_law_564 dL_law_565 dL_law_566 dL_law_567 dL_law_568 ?_
  refine z_argL X hI (by decide) (by decide) dL_law_569 dL_law_570 dL_law_571 dL_law_572 dL_law_573 ?_
  refine z_callV X.C0 rfl kc_X12_drift km_RL_57 (r_X12_drift 310 _ _ _ _ μ1 lw_hT12 e2) lw_hT12.1 (by decide) rfl (by decide) rfl (Nat.le_of_ble_eq_true rfl) (Nat.le_of_ble_eq_true rfl) (Nat.le_of_ble_eq_true rfl) (Nat.le_of_ble_eq_true rfl) (Nat.le_refl _) rfl rfl dL_law_574 ?_
  exact z_icmp_eq X.C0 1461 dL_law_577 (by decide) (fun _ => K _ h2) (fun h => absurd rfl h)
theorem lw_c10 (X : lwX p s m b meth c g κ L xs) (hI : lwI i L) (hM : Inv μ) (K : ∀ μ2, Inv μ2 → LZ p l e s m b below meth c g Q μ2 1461 i []) : LZ p l e s m b below meth c g Q μ 582 i [] := by
  obtain ⟨rr, μ1, μ2, e1, e2, h2⟩ := goes_same (lwV xs i 1) (lwV xs i 2) (lwV xs i 3) (lwV xs i 4) μ hM
  refine z_aload_n X.C0 dL_law_582 rfl 2 rfl ?_
  refine z_argL X hI (by decide) (by decide) dL_law_583 dL_law_584 dL_law_585 dL_law_586 dL_law_587 ?_
  refine z_argL X hI (by decide) (by decide) dL_law_588 dL_law_589 dL_law_590 dL_law_591 dL_law_592 ?_
  refine z_argL X hI (by decide) (by decide) dL_law_593 dL_law_594 dL_law_595 dL_law_596 dL_law_597 ?_
  refine z_argL X hI (by decide) (by decide) dL_law_598 dL_law_599 dL_law_600 dL_law_601 dL_law_602 ?_
  refine z_callV X.C0 rfl kc_X11_goes km_RL_58 (r_X11_goes 0 _ _ _ _ μ lw_hT11 e1) lw_hT11.1 (by decide) rfl (by decide) rfl (Nat.le_of_ble_eq_true rfl) (Nat.le_of_ble_eq_true rfl) (Nat.le_of_ble_eq_true rfl) (Nat.le_of_ble_eq_true rfl) (Nat.le_refl _) rfl rfl dL_law_603 ?_
  refine z_aload_n X.C0 dL_law_606 rfl 1 rfl ?_
  refine z_argL X hI (by decide) (by decide) dL_law_607 dL_law_608 dL_law_609 dL_law_610 dL_law_611 ?_
  refine z_argL X hI (by decide) (by decide) dL_law_612 dL_law_613 dL_law_614 dL_law_615 dL_law_616 ?_
  refine z_argL X hI (by decide) (by decide) dL_law_617 dL_law_618 dL_law_619 dL_law_620 dL_law_621 ?_
  refine z_argL X hI (by decide) (by decide) dL_law_622 dL_law_623 dL_law_624 dL_law_625 dL_law_626 ?_
  refine z_callV X.C0 rfl kc_X12_goes km_RL_61 (r_X12_goes 310 _ _ _ _ μ1 lw_hT12 e2) lw_hT12.1 (by decide) rfl (by decide) rfl (Nat.le_of_ble_eq_true rfl) (Nat.le_of_ble_eq_true rfl) (Nat.le_of_ble_eq_true rfl) (Nat.le_of_ble_eq_true rfl) (Nat.le_refl _) rfl rfl dL_law_627 ?_
  exact z_icmp_eq X.C0 1461 dL_law_630 (by decide) (fun _ => K _ h2) (fun h => absurd rfl h)
theorem lw_c11 (X : lwX p s m b meth c g κ L xs) (hI : lwI i L) (hM : Inv μ) (K : ∀ μ2, Inv μ2 → LZ p l e s m b below meth c g Q μ2 1461 i []) : LZ p l e s m b below meth c g Q μ 635 i [] := by
  obtain ⟨rr, μ1, μ2, e1, e2, h2⟩ := owed_same (lwV xs i 1) (lwV xs i 2) (lwV xs i 3) (lwV xs i 4) μ hM
  refine z_aload_n X.C0 dL_law_635 rfl 2 rfl ?_
  refine z_argL X hI (by decide) (by decide) dL_law_636 dL_law_637 dL_law_638 dL_law_639 dL_law_640 ?_
  refine z_argL X hI (by decide) (by decide) dL_law_641 dL_law_642 dL_law_643 dL_law_644 dL_law_645 ?_
  refine z_argL X hI (by decide) (by decide) dL_law_646 dL_law_647 dL_law_648 dL_law_649 dL_law_650 ?_
  refine z_argL X hI (by decide) (by decide) dL_law_651 dL_law_652 dL_law_653 dL_law_654 dL_law_655 ?_
  refine z_callV X.C0 rfl kc_X11_owed km_RL_62 (r_X11_owed 0 _ _ _ _ μ lw_hT11 X.hSp e1) lw_hT11.1 (by decide) rfl (by decide) rfl (Nat.le_of_ble_eq_true rfl) (Nat.le_of_ble_eq_true rfl) (Nat.le_of_ble_eq_true rfl) (Nat.le_of_ble_eq_true rfl) (Nat.le_refl _) rfl rfl dL_law_656 ?_
  refine z_aload_n X.C0 dL_law_659 rfl 1 rfl ?_
  refine z_argL X hI (by decide) (by decide) dL_law_660 dL_law_661 dL_law_662 dL_law_663 dL_law_664 ?_
  refine z_argL X hI (by decide) (by decide) dL_law_665 dL_law_666 dL_law_667 dL_law_668 dL_law_669 ?_
  refine z_argL X hI (by decide) (by decide) dL_law_670 dL_law_671 dL_law_672 dL_law_673 dL_law_674 ?_
  refine z_argL X hI (by decide) (by decide) dL_law_675 dL_law_676 dL_law_677 dL_law_678 dL_law_679 ?_
  refine z_callV X.C0 rfl kc_X12_owed km_RL_65 (r_X12_owed 310 _ _ _ _ μ1 lw_hT12 e2) lw_hT12.1 (by decide) rfl (by decide) rfl (Nat.le_of_ble_eq_true rfl) (Nat.le_of_ble_eq_true rfl) (Nat.le_of_ble_eq_true rfl) (Nat.le_of_ble_eq_true rfl) (Nat.le_refl _) rfl rfl dL_law_680 ?_
  exact z_icmp_eq X.C0 1461 dL_law_683 (by decide) (fun _ => K _ h2) (fun h => absurd rfl h)
theorem lw_c12 (X : lwX p s m b meth c g κ L xs) (hI : lwI i L) (hM : Inv μ) (K : ∀ μ2, Inv μ2 → LZ p l e s m b below meth c g Q μ2 1461 i []) : LZ p l e s m b below meth c g Q μ 688 i [] := by
  obtain ⟨rr, μ1, μ2, e1, e2, h2⟩ := cost_same (lwV xs i 1) (lwV xs i 2) (lwV xs i 3) μ hM
  refine z_aload_n X.C0 dL_law_688 rfl 2 rfl ?_
  refine z_argL X hI (by decide) (by decide) dL_law_689 dL_law_690 dL_law_691 dL_law_692 dL_law_693 ?_
  refine z_argL X hI (by decide) (by decide) dL_law_694 dL_law_695 dL_law_696 dL_law_697 dL_law_698 ?_
  refine z_argL X hI (by decide) (by decide) dL_law_699 dL_law_700 dL_law_701 dL_law_702 dL_law_703 ?_
  refine z_callV X.C0 rfl kc_X11_cost km_RL_66 (r_X11_cost 0 _ _ _ μ lw_hT11 X.hSp e1) lw_hT11.1 (by decide) rfl (by decide) rfl (Nat.le_of_ble_eq_true rfl) (Nat.le_of_ble_eq_true rfl) (Nat.le_of_ble_eq_true rfl) (Nat.le_of_ble_eq_true rfl) (Nat.le_refl _) rfl rfl dL_law_704 ?_
  refine z_aload_n X.C0 dL_law_707 rfl 1 rfl ?_
  refine z_argL X hI (by decide) (by decide) dL_law_708 dL_law_709 dL_law_710 dL_law_711 dL_law_712 ?_
  refine z_argL X hI (by decide) (by decide) dL_law_713 dL_law_714 dL_law_715 dL_law_716 dL_law_717 ?_
  refine z_argL X hI (by decide) (by decide) dL_law_718 dL_law_719 dL_law_720 dL_law_721 dL_law_722 ?_
  refine z_callV X.C0 rfl kc_X12_cost km_RL_69 (r_X12_cost 310 _ _ _ μ1 lw_hT12 e2) lw_hT12.1 (by decide) rfl (by decide) rfl (Nat.le_of_ble_eq_true rfl) (Nat.le_of_ble_eq_true rfl) (Nat.le_of_ble_eq_true rfl) (Nat.le_of_ble_eq_true rfl) (Nat.le_refl _) rfl rfl dL_law_723 ?_
  exact z_icmp_eq X.C0 1461 dL_law_726 (by decide) (fun _ => K _ h2) (fun h => absurd rfl h)
theorem lw_c13 (X : lwX p s m b meth c g κ L xs) (hI : lwI i L) (hM : Inv μ) (K : ∀ μ2, Inv μ2 → LZ p l e s m b below meth c g Q μ2 1461 i []) : LZ p l e s m b below meth c g Q μ 731 i [] := by
  obtain ⟨rr, μ1, μ2, e1, e2, h2⟩ := reach_same (lwV xs i 1) (lwV xs i 2) (lwV xs i 3) (lwV xs i 4) μ hM
  refine z_aload_n X.C0 dL_law_731 rfl 2 rfl ?_
  refine z_argL X hI (by decide) (by decide) dL_law_732 dL_law_733 dL_law_734 dL_law_735 dL_law_736 ?_
  refine z_argL X hI (by decide) (by decide) dL_law_737 dL_law_738 dL_law_739 dL_law_740 dL_law_741 ?_
  refine z_argL X hI (by decide) (by decide) dL_law_742 dL_law_743 dL_law_744 dL_law_745 dL_law_746 ?_
  refine z_argL X hI (by decide) (by decide) dL_law_747 dL_law_748 dL_law_749 dL_law_750 dL_law_751 ?_
  refine z_callV X.C0 rfl kc_X11_reach km_RL_70 (r_X11_reach 0 _ _ _ _ μ lw_hT11 X.hSp e1) lw_hT11.1 (by decide) rfl (by decide) rfl (Nat.le_of_ble_eq_true rfl) (Nat.le_of_ble_eq_true rfl) (Nat.le_of_ble_eq_true rfl) (Nat.le_of_ble_eq_true rfl) (Nat.le_refl _) rfl rfl dL_law_752 ?_
  refine z_aload_n X.C0 dL_law_755 rfl 1 rfl ?_
  refine z_argL X hI (by decide) (by decide) dL_law_756 dL_law_757 dL_law_758 dL_law_759 dL_law_760 ?_
  refine z_argL X hI (by decide) (by decide) dL_law_761 dL_law_762 dL_law_763 dL_law_764 dL_law_765 ?_
  refine z_argL X hI (by decide) (by decide) dL_law_766 dL_law_767 dL_law_768 dL_law_769 dL_law_770 ?_
  refine z_argL X hI (by decide) (by decide) dL_law_771 dL_law_772 dL_law_773 dL_law_774 dL_law_775 ?_
  refine z_callV X.C0 rfl kc_X12_reach km_RL_73 (r_X12_reach 310 _ _ _ _ μ1 lw_hT12 e2) lw_hT12.1 (by decide) rfl (by decide) rfl (Nat.le_of_ble_eq_true rfl) (Nat.le_of_ble_eq_true rfl) (Nat.le_of_ble_eq_true rfl) (Nat.le_of_ble_eq_true rfl) (Nat.le_refl _) rfl rfl dL_law_776 ?_
  exact z_icmp_eq X.C0 1461 dL_law_779 (by decide) (fun _ => K _ h2) (fun h => absurd rfl h)
theorem lw_c14 (X : lwX p s m b meth c g κ L xs) (hI : lwI i L) (hM : Inv μ) (K : ∀ μ2, Inv μ2 → LZ p l e s m b below meth c g Q μ2 1461 i []) : LZ p l e s m b below meth c g Q μ 784 i [] := by
  obtain ⟨rr, μ1, μ2, e1, e2, h2⟩ := sends_same (lwV xs i 1) (lwV xs i 2) μ hM
  refine z_aload_n X.C0 dL_law_784 rfl 2 rfl ?_
  refine z_argL X hI (by decide) (by decide) dL_law_785 dL_law_786 dL_law_787 dL_law_788 dL_law_789 ?_
  refine z_argL X hI (by decide) (by decide) dL_law_790 dL_law_791 dL_law_792 dL_law_793 dL_law_794 ?_
  refine z_callV X.C0 rfl kc_X11_sends km_RL_74 (r_X11_sends 0 _ _ μ lw_hT11 X.hSp e1) lw_hT11.1 (by decide) rfl (by decide) rfl (Nat.le_of_ble_eq_true rfl) (Nat.le_of_ble_eq_true rfl) (Nat.le_of_ble_eq_true rfl) (Nat.le_of_ble_eq_true rfl) (Nat.le_refl _) rfl rfl dL_law_795 ?_
  refine z_aload_n X.C0 dL_law_798 rfl 1 rfl ?_
  refine z_argL X hI (by decide) (by decide) dL_law_799 dL_law_800 dL_law_801 dL_law_802 dL_law_803 ?_
  refine z_argL X hI (by decide) (by decide) dL_law_804 dL_law_805 dL_law_806 dL_law_807 dL_law_808 ?_
  refine z_callV X.C0 rfl kc_X12_sends km_RL_77 (r_X12_sends 310 _ _ μ1 lw_hT12 e2) lw_hT12.1 (by decide) rfl (by decide) rfl (Nat.le_of_ble_eq_true rfl) (Nat.le_of_ble_eq_true rfl) (Nat.le_of_ble_eq_true rfl) (Nat.le_of_ble_eq_true rfl) (Nat.le_refl _) rfl rfl dL_law_809 ?_
  exact z_icmp_eq X.C0 1461 dL_law_812 (by decide) (fun _ => K _ h2) (fun h => absurd rfl h)
theorem lw_c15 (X : lwX p s m b meth c g κ L xs) (hI : lwI i L) (hM : Inv μ) (K : ∀ μ2, Inv μ2 → LZ p l e s m b below meth c g Q μ2 1461 i []) : LZ p l e s m b below meth c g Q μ 817 i [] := by
  obtain ⟨rr, μ1, μ2, e1, e2, h2⟩ := thrift_same (lwV xs i 1) (lwV xs i 2) (lwV xs i 3) μ hM
  refine z_aload_n X.C0 dL_law_817 rfl 2 rfl ?_
  refine z_argL X hI (by decide) (by decide) dL_law_818 dL_law_819 dL_law_820 dL_law_821 dL_law_822 ?_
  refine z_argL X hI (by decide) (by decide) dL_law_823 dL_law_824 dL_law_825 dL_law_826 dL_law_827 ?_
  refine z_argL X hI (by decide) (by decide) dL_law_828 dL_law_829 dL_law_830 dL_law_831 dL_law_832 ?_
  refine z_callV X.C0 rfl kc_X11_thrift km_RL_78 (r_X11_thrift 0 _ _ _ μ lw_hT11 X.hSp e1) lw_hT11.1 (by decide) rfl (by decide) rfl (Nat.le_of_ble_eq_true rfl) (Nat.le_of_ble_eq_true rfl) (Nat.le_of_ble_eq_true rfl) (Nat.le_of_ble_eq_true rfl) (Nat.le_refl _) rfl rfl dL_law_833 ?_
  refine z_aload_n X.C0 dL_law_836 rfl 1 rfl ?_
  refine z_argL X hI (by decide) (by decide) dL_law_837 dL_law_838 dL_law_839 dL_law_840 dL_law_841 ?_
  refine z_argL X hI (by decide) (by decide) dL_law_842 dL_law_843 dL_law_844 dL_law_845 dL_law_846 ?_
  refine z_argL X hI (by decide) (by decide) dL_law_847 dL_law_848 dL_law_849 dL_law_850 dL_law_851 ?_
  refine z_callV X.C0 rfl kc_X12_thrift km_RL_81 (r_X12_thrift 310 _ _ _ μ1 lw_hT12 e2) lw_hT12.1 (by decide) rfl (by decide) rfl (Nat.le_of_ble_eq_true rfl) (Nat.le_of_ble_eq_true rfl) (Nat.le_of_ble_eq_true rfl) (Nat.le_of_ble_eq_true rfl) (Nat.le_refl _) rfl rfl dL_law_852 ?_
  exact z_icmp_eq X.C0 1461 dL_law_855 (by decide) (fun _ => K _ h2) (fun h => absurd rfl h)
theorem lw_c16 (X : lwX p s m b meth c g κ L xs) (hI : lwI i L) (hM : Inv μ) (K : ∀ μ2, Inv μ2 → LZ p l e s m b below meth c g Q μ2 1461 i []) : LZ p l e s m b below meth c g Q μ 860 i [] := by
  obtain ⟨rr, μ1, μ2, e1, e2, h2⟩ := pull_same (lwV xs i 1) (lwV xs i 2) (lwV xs i 3) μ hM
  refine z_aload_n X.C0 dL_law_860 rfl 2 rfl ?_
  refine z_argL X hI (by decide) (by decide) dL_law_861 dL_law_862 dL_law_863 dL_law_864 dL_law_865 ?_
  refine z_argL X hI (by decide) (by decide) dL_law_866 dL_law_867 dL_law_868 dL_law_869 dL_law_870 ?_
  refine z_argL X hI (by decide) (by decide) dL_law_871 dL_law_872 dL_law_873 dL_law_874 dL_law_875 ?_
  refine z_callV X.C0 rfl kc_X11_pull km_RL_82 (r_X11_pull 0 _ _ _ μ lw_hT11 e1) lw_hT11.1 (by decide) rfl (by decide) rfl (Nat.le_of_ble_eq_true rfl) (Nat.le_of_ble_eq_true rfl) (Nat.le_of_ble_eq_true rfl) (Nat.le_of_ble_eq_true rfl) (Nat.le_refl _) rfl rfl dL_law_876 ?_
  refine z_aload_n X.C0 dL_law_879 rfl 1 rfl ?_
  refine z_argL X hI (by decide) (by decide) dL_law_880 dL_law_881 dL_law_882 dL_law_883 dL_law_884 ?_
  refine z_argL X hI (by decide) (by decide) dL_law_885 dL_law_886 dL_law_887 dL_law_888 dL_law_889 ?_
  refine z_argL X hI (by decide) (by decide) dL_law_890 dL_law_891 dL_law_892 dL_law_893 dL_law_894 ?_
  refine z_callV X.C0 rfl kc_X12_pull km_RL_85 (r_X12_pull 310 _ _ _ μ1 lw_hT12 e2) lw_hT12.1 (by decide) rfl (by decide) rfl (Nat.le_of_ble_eq_true rfl) (Nat.le_of_ble_eq_true rfl) (Nat.le_of_ble_eq_true rfl) (Nat.le_of_ble_eq_true rfl) (Nat.le_refl _) rfl rfl dL_law_895 ?_
  exact z_icmp_eq X.C0 1461 dL_law_898 (by decide) (fun _ => K _ h2) (fun h => absurd rfl h)
theorem lw_c17 (X : lwX p s m b meth c g κ L xs) (hI : lwI i L) (hM : Inv μ) (K : ∀ μ2, Inv μ2 → LZ p l e s m b below meth c g Q μ2 1461 i []) : LZ p l e s m b below meth c g Q μ 903 i [] := by
  obtain ⟨rr, μ1, μ2, e1, e2, h2⟩ := gain_same (lwV xs i 1) (lwV xs i 2) (lwV xs i 3) (lwV xs i 4) μ hM
  refine z_aload_n X.C0 dL_law_903 rfl 2 rfl ?_
  refine z_argL X hI (by decide) (by decide) dL_law_904 dL_law_905 dL_law_906 dL_law_907 dL_law_908 ?_
  refine z_argL X hI (by decide) (by decide) dL_law_909 dL_law_910 dL_law_911 dL_law_912 dL_law_913 ?_
  refine z_argL X hI (by decide) (by decide) dL_law_914 dL_law_915 dL_law_916 dL_law_917 dL_law_918 ?_
  refine z_argL X hI (by decide) (by decide) dL_law_919 dL_law_920 dL_law_921 dL_law_922 dL_law_923 ?_
  refine z_callV X.C0 rfl kc_X11_gain km_RL_86 (r_X11_gain 0 _ _ _ _ μ lw_hT11 e1) lw_hT11.1 (by decide) rfl (by decide) rfl (Nat.le_of_ble_eq_true rfl) (Nat.le_of_ble_eq_true rfl) (Nat.le_of_ble_eq_true rfl) (Nat.le_of_ble_eq_true rfl) (Nat.le_refl _) rfl rfl dL_law_924 ?_
  refine z_aload_n X.C0 dL_law_927 rfl 1 rfl ?_
  refine z_argL X hI (by decide) (by decide) dL_law_928 dL_law_929 dL_law_930 dL_law_931 dL_law_932 ?_
  refine z_argL X hI (by decide) (by decide) dL_law_933 dL_law_934 dL_law_935 dL_law_936 dL_law_937 ?_
  refine z_argL X hI (by decide) (by decide) dL_law_938 dL_law_939 dL_law_940 dL_law_941 dL_law_942 ?_
  refine z_argL X hI (by decide) (by decide) dL_law_943 dL_law_944 dL_law_945 dL_law_946 dL_law_947 ?_
  refine z_callV X.C0 rfl kc_X12_gain km_RL_89 (r_X12_gain 310 _ _ _ _ μ1 lw_hT12 e2) lw_hT12.1 (by decide) rfl (by decide) rfl (Nat.le_of_ble_eq_true rfl) (Nat.le_of_ble_eq_true rfl) (Nat.le_of_ble_eq_true rfl) (Nat.le_of_ble_eq_true rfl) (Nat.le_refl _) rfl rfl dL_law_948 ?_
  exact z_icmp_eq X.C0 1461 dL_law_951 (by decide) (fun _ => K _ h2) (fun h => absurd rfl h)
theorem lw_c18 (X : lwX p s m b meth c g κ L xs) (hI : lwI i L) (hM : Inv μ) (K : ∀ μ2, Inv μ2 → LZ p l e s m b below meth c g Q μ2 1461 i []) : LZ p l e s m b below meth c g Q μ 956 i [] := by
  obtain ⟨rr, μ1, μ2, e1, e2, h2⟩ := sight_same (lwV xs i 1) (lwV xs i 2) (lwV xs i 3) μ hM
  obtain ⟨f1, rfl⟩ := vM_of e1
  refine z_aload_n X.C0 dL_law_956 rfl 2 rfl ?_
  refine z_argL X hI (by decide) (by decide) dL_law_957 dL_law_958 dL_law_959 dL_law_960 dL_law_961 ?_
  refine z_argL X hI (by decide) (by decide) dL_law_962 dL_law_963 dL_law_964 dL_law_965 dL_law_966 ?_
  refine z_argL X hI (by decide) (by decide) dL_law_967 dL_law_968 dL_law_969 dL_law_970 dL_law_971 ?_
  refine z_callV X.C0 rfl kc_X11_sight km_RL_90 (r_X11_sight 0 _ _ _ μ lw_hT11 f1) lw_hT11.1 (by decide) rfl (by decide) rfl (Nat.le_of_ble_eq_true rfl) (Nat.le_of_ble_eq_true rfl) (Nat.le_of_ble_eq_true rfl) (Nat.le_of_ble_eq_true rfl) (Nat.le_refl _) rfl rfl dL_law_972 ?_
  refine z_aload_n X.C0 dL_law_975 rfl 1 rfl ?_
  refine z_argL X hI (by decide) (by decide) dL_law_976 dL_law_977 dL_law_978 dL_law_979 dL_law_980 ?_
  refine z_argL X hI (by decide) (by decide) dL_law_981 dL_law_982 dL_law_983 dL_law_984 dL_law_985 ?_
  refine z_argL X hI (by decide) (by decide) dL_law_986 dL_law_987 dL_law_988 dL_law_989 dL_law_990 ?_
  refine z_callV X.C0 rfl kc_X12_sight km_RL_93 (r_X12_sight 310 _ _ _ μ lw_hT12 e2) lw_hT12.1 (by decide) rfl (by decide) rfl (Nat.le_of_ble_eq_true rfl) (Nat.le_of_ble_eq_true rfl) (Nat.le_of_ble_eq_true rfl) (Nat.le_of_ble_eq_true rfl) (Nat.le_refl _) rfl rfl dL_law_991 ?_
  exact z_icmp_eq X.C0 1461 dL_law_994 (by decide) (fun _ => K _ h2) (fun h => absurd rfl h)
theorem lw_c19 (X : lwX p s m b meth c g κ L xs) (hI : lwI i L) (hM : Inv μ) (K : ∀ μ2, Inv μ2 → LZ p l e s m b below meth c g Q μ2 1461 i []) : LZ p l e s m b below meth c g Q μ 999 i [] := by
  obtain ⟨rr, μ1, μ2, e1, e2, h2⟩ := stood_same (lwV xs i 1) (lwV xs i 2) (lwV xs i 3) μ hM
  refine z_aload_n X.C0 dL_law_999 rfl 2 rfl ?_
  refine z_argL X hI (by decide) (by decide) dL_law_1000 dL_law_1001 dL_law_1002 dL_law_1003 dL_law_1004 ?_
  refine z_argL X hI (by decide) (by decide) dL_law_1005 dL_law_1006 dL_law_1007 dL_law_1008 dL_law_1009 ?_
  refine z_argL X hI (by decide) (by decide) dL_law_1010 dL_law_1011 dL_law_1012 dL_law_1013 dL_law_1014 ?_
  refine z_callV X.C0 rfl kc_X11_stood km_RL_94 (r_X11_stood 0 _ _ _ μ lw_hT11 e1) lw_hT11.1 (by decide) rfl (by decide) rfl (Nat.le_of_ble_eq_true rfl) (Nat.le_of_ble_eq_true rfl) (Nat.le_of_ble_eq_true rfl) (Nat.le_of_ble_eq_true rfl) (Nat.le_refl _) rfl rfl dL_law_1015 ?_
  refine z_aload_n X.C0 dL_law_1018 rfl 1 rfl ?_
  refine z_argL X hI (by decide) (by decide) dL_law_1019 dL_law_1020 dL_law_1021 dL_law_1022 dL_law_1023 ?_
  refine z_argL X hI (by decide) (by decide) dL_law_1024 dL_law_1025 dL_law_1026 dL_law_1027 dL_law_1028 ?_
  refine z_argL X hI (by decide) (by decide) dL_law_1029 dL_law_1030 dL_law_1031 dL_law_1032 dL_law_1033 ?_
  refine z_callV X.C0 rfl kc_X12_stood km_RL_97 (r_X12_stood 310 _ _ _ μ1 lw_hT12 e2) lw_hT12.1 (by decide) rfl (by decide) rfl (Nat.le_of_ble_eq_true rfl) (Nat.le_of_ble_eq_true rfl) (Nat.le_of_ble_eq_true rfl) (Nat.le_of_ble_eq_true rfl) (Nat.le_refl _) rfl rfl dL_law_1034 ?_
  exact z_icmp_eq X.C0 1461 dL_law_1037 (by decide) (fun _ => K _ h2) (fun h => absurd rfl h)
theorem lw_c20 (X : lwX p s m b meth c g κ L xs) (hI : lwI i L) (hM : Inv μ) (K : ∀ μ2, Inv μ2 → LZ p l e s m b below meth c g Q μ2 1461 i []) : LZ p l e s m b below meth c g Q μ 1042 i [] := by
  obtain ⟨rr, μ1, μ2, e1, e2, h2⟩ := corner_same (lwV xs i 1) (lwV xs i 2) (lwV xs i 3) (lwV xs i 4) μ hM
  refine z_aload_n X.C0 dL_law_1042 rfl 2 rfl ?_
  refine z_argL X hI (by decide) (by decide) dL_law_1043 dL_law_1044 dL_law_1045 dL_law_1046 dL_law_1047 ?_
  refine z_argL X hI (by decide) (by decide) dL_law_1048 dL_law_1049 dL_law_1050 dL_law_1051 dL_law_1052 ?_
  refine z_argL X hI (by decide) (by decide) dL_law_1053 dL_law_1054 dL_law_1055 dL_law_1056 dL_law_1057 ?_
  refine z_argL X hI (by decide) (by decide) dL_law_1058 dL_law_1059 dL_law_1060 dL_law_1061 dL_law_1062 ?_
  refine z_callV X.C0 rfl kc_X11_corner km_RL_98 (r_X11_corner 0 _ _ _ _ μ lw_hT11 e1) lw_hT11.1 (by decide) rfl (by decide) rfl (Nat.le_of_ble_eq_true rfl) (Nat.le_of_ble_eq_true rfl) (Nat.le_of_ble_eq_true rfl) (Nat.le_of_ble_eq_true rfl) (Nat.le_refl _) rfl rfl dL_law_1063 ?_
  refine z_aload_n X.C0 dL_law_1066 rfl 1 rfl ?_
  refine z_argL X hI (by decide) (by decide) dL_law_1067 dL_law_1068 dL_law_1069 dL_law_1070 dL_law_1071 ?_
  refine z_argL X hI (by decide) (by decide) dL_law_1072 dL_law_1073 dL_law_1074 dL_law_1075 dL_law_1076 ?_
  refine z_argL X hI (by decide) (by decide) dL_law_1077 dL_law_1078 dL_law_1079 dL_law_1080 dL_law_1081 ?_
  refine z_argL X hI (by decide) (by decide) dL_law_1082 dL_law_1083 dL_law_1084 dL_law_1085 dL_law_1086 ?_
  refine z_callV X.C0 rfl kc_X12_corner km_RL_101 (r_X12_corner 310 _ _ _ _ μ1 lw_hT12 e2) lw_hT12.1 (by decide) rfl (by decide) rfl (Nat.le_of_ble_eq_true rfl) (Nat.le_of_ble_eq_true rfl) (Nat.le_of_ble_eq_true rfl) (Nat.le_of_ble_eq_true rfl) (Nat.le_refl _) rfl rfl dL_law_1087 ?_
  exact z_icmp_eq X.C0 1461 dL_law_1090 (by decide) (fun _ => K _ h2) (fun h => absurd rfl h)
theorem lw_c21 (X : lwX p s m b meth c g κ L xs) (hI : lwI i L) (hM : Inv μ) (K : ∀ μ2, Inv μ2 → LZ p l e s m b below meth c g Q μ2 1461 i []) : LZ p l e s m b below meth c g Q μ 1095 i [] := by
  obtain ⟨rr, μ1, μ2, e1, e2, h2⟩ := dead_same (lwV xs i 1) (lwV xs i 2) μ hM
  obtain ⟨f1, rfl⟩ := vM_of e1
  refine z_aload_n X.C0 dL_law_1095 rfl 2 rfl ?_
  refine z_argL X hI (by decide) (by decide) dL_law_1096 dL_law_1097 dL_law_1098 dL_law_1099 dL_law_1100 ?_
  refine z_argL X hI (by decide) (by decide) dL_law_1101 dL_law_1102 dL_law_1103 dL_law_1104 dL_law_1105 ?_
  refine z_callV X.C0 rfl kc_X11_dead km_RL_102 (r_X11_dead 0 _ _ μ lw_hT11 f1) lw_hT11.1 (by decide) rfl (by decide) rfl (Nat.le_of_ble_eq_true rfl) (Nat.le_of_ble_eq_true rfl) (Nat.le_of_ble_eq_true rfl) (Nat.le_of_ble_eq_true rfl) (Nat.le_refl _) rfl rfl dL_law_1106 ?_
  refine z_aload_n X.C0 dL_law_1109 rfl 1 rfl ?_
  refine z_argL X hI (by decide) (by decide) dL_law_1110 dL_law_1111 dL_law_1112 dL_law_1113 dL_law_1114 ?_
  refine z_argL X hI (by decide) (by decide) dL_law_1115 dL_law_1116 dL_law_1117 dL_law_1118 dL_law_1119 ?_
  refine z_callV X.C0 rfl kc_X12_dead km_RL_105 (r_X12_dead 310 _ _ μ lw_hT12 e2) lw_hT12.1 (by decide) rfl (by decide) rfl (Nat.le_of_ble_eq_true rfl) (Nat.le_of_ble_eq_true rfl) (Nat.le_of_ble_eq_true rfl) (Nat.le_of_ble_eq_true rfl) (Nat.le_refl _) rfl rfl dL_law_1120 ?_
  exact z_icmp_eq X.C0 1461 dL_law_1123 (by decide) (fun _ => K _ h2) (fun h => absurd rfl h)
theorem lw_c22 (X : lwX p s m b meth c g κ L xs) (hI : lwI i L) (hM : Inv μ) (K : ∀ μ2, Inv μ2 → LZ p l e s m b below meth c g Q μ2 1461 i []) : LZ p l e s m b below meth c g Q μ 1128 i [] := by
  obtain ⟨rr, μ1, μ2, e1, e2, h2⟩ := lies_same (lwV xs i 1) (lwV xs i 2) μ hM
  refine z_aload_n X.C0 dL_law_1128 rfl 2 rfl ?_
  refine z_argL X hI (by decide) (by decide) dL_law_1129 dL_law_1130 dL_law_1131 dL_law_1132 dL_law_1133 ?_
  refine z_argL X hI (by decide) (by decide) dL_law_1134 dL_law_1135 dL_law_1136 dL_law_1137 dL_law_1138 ?_
  refine z_callV X.C0 rfl kc_X11_lies km_RL_106 (r_X11_lies 0 _ _ μ lw_hT11 X.hSp e1) lw_hT11.1 (by decide) rfl (by decide) rfl (Nat.le_of_ble_eq_true rfl) (Nat.le_of_ble_eq_true rfl) (Nat.le_of_ble_eq_true rfl) (Nat.le_of_ble_eq_true rfl) (Nat.le_refl _) rfl rfl dL_law_1139 ?_
  refine z_aload_n X.C0 dL_law_1142 rfl 1 rfl ?_
  refine z_argL X hI (by decide) (by decide) dL_law_1143 dL_law_1144 dL_law_1145 dL_law_1146 dL_law_1147 ?_
  refine z_argL X hI (by decide) (by decide) dL_law_1148 dL_law_1149 dL_law_1150 dL_law_1151 dL_law_1152 ?_
  refine z_callV X.C0 rfl kc_X12_lies km_RL_109 (r_X12_lies 310 _ _ μ1 lw_hT12 e2) lw_hT12.1 (by decide) rfl (by decide) rfl (Nat.le_of_ble_eq_true rfl) (Nat.le_of_ble_eq_true rfl) (Nat.le_of_ble_eq_true rfl) (Nat.le_of_ble_eq_true rfl) (Nat.le_refl _) rfl rfl dL_law_1153 ?_
  exact z_icmp_eq X.C0 1461 dL_law_1156 (by decide) (fun _ => K _ h2) (fun h => absurd rfl h)
theorem lw_c23 (X : lwX p s m b meth c g κ L xs) (hI : lwI i L) (hM : Inv μ) (K : ∀ μ2, Inv μ2 → LZ p l e s m b below meth c g Q μ2 1461 i []) : LZ p l e s m b below meth c g Q μ 1161 i [] := by
  obtain ⟨rr, μ1, μ2, e1, e2, h2⟩ := bail_same (lwV xs i 1) (lwV xs i 2) (lwV xs i 3) μ hM
  refine z_aload_n X.C0 dL_law_1161 rfl 2 rfl ?_
  refine z_argL X hI (by decide) (by decide) dL_law_1162 dL_law_1163 dL_law_1164 dL_law_1165 dL_law_1166 ?_
  refine z_argL X hI (by decide) (by decide) dL_law_1167 dL_law_1168 dL_law_1169 dL_law_1170 dL_law_1171 ?_
  refine z_argL X hI (by decide) (by decide) dL_law_1172 dL_law_1173 dL_law_1174 dL_law_1175 dL_law_1176 ?_
  refine z_callV X.C0 rfl kc_X11_bail km_RL_110 (r_X11_bail 0 _ _ _ μ lw_hT11 e1) lw_hT11.1 (by decide) rfl (by decide) rfl (Nat.le_of_ble_eq_true rfl) (Nat.le_of_ble_eq_true rfl) (Nat.le_of_ble_eq_true rfl) (Nat.le_of_ble_eq_true rfl) (Nat.le_refl _) rfl rfl dL_law_1177 ?_
  refine z_aload_n X.C0 dL_law_1180 rfl 1 rfl ?_
  refine z_argL X hI (by decide) (by decide) dL_law_1181 dL_law_1182 dL_law_1183 dL_law_1184 dL_law_1185 ?_
  refine z_argL X hI (by decide) (by decide) dL_law_1186 dL_law_1187 dL_law_1188 dL_law_1189 dL_law_1190 ?_
  refine z_argL X hI (by decide) (by decide) dL_law_1191 dL_law_1192 dL_law_1193 dL_law_1194 dL_law_1195 ?_
  refine z_callV X.C0 rfl kc_X12_bail km_RL_113 (r_X12_bail 310 _ _ _ μ1 lw_hT12 e2) lw_hT12.1 (by decide) rfl (by decide) rfl (Nat.le_of_ble_eq_true rfl) (Nat.le_of_ble_eq_true rfl) (Nat.le_of_ble_eq_true rfl) (Nat.le_of_ble_eq_true rfl) (Nat.le_refl _) rfl rfl dL_law_1196 ?_
  exact z_icmp_eq X.C0 1461 dL_law_1199 (by decide) (fun _ => K _ h2) (fun h => absurd rfl h)
theorem lw_c24 (X : lwX p s m b meth c g κ L xs) (hI : lwI i L) (hM : Inv μ) (K : ∀ μ2, Inv μ2 → LZ p l e s m b below meth c g Q μ2 1461 i []) : LZ p l e s m b below meth c g Q μ 1204 i [] := by
  obtain ⟨rr, μ1, μ2, e1, e2, h2⟩ := term_same (lwV xs i 1) (lwV xs i 2) (lwV xs i 3) μ hM
  obtain ⟨f1, rfl⟩ := vM_of e1
  refine z_aload_n X.C0 dL_law_1204 rfl 2 rfl ?_
  refine z_argL X hI (by decide) (by decide) dL_law_1205 dL_law_1206 dL_law_1207 dL_law_1208 dL_law_1209 ?_
  refine z_argL X hI (by decide) (by decide) dL_law_1210 dL_law_1211 dL_law_1212 dL_law_1213 dL_law_1214 ?_
  refine z_argL X hI (by decide) (by decide) dL_law_1215 dL_law_1216 dL_law_1217 dL_law_1218 dL_law_1219 ?_
  refine z_callV X.C0 rfl kc_X11_term km_RL_114 (r_X11_term 0 _ _ _ μ lw_hT11 f1) lw_hT11.1 (by decide) rfl (by decide) rfl (Nat.le_of_ble_eq_true rfl) (Nat.le_of_ble_eq_true rfl) (Nat.le_of_ble_eq_true rfl) (Nat.le_of_ble_eq_true rfl) (Nat.le_refl _) rfl rfl dL_law_1220 ?_
  refine z_aload_n X.C0 dL_law_1223 rfl 1 rfl ?_
  refine z_argL X hI (by decide) (by decide) dL_law_1224 dL_law_1225 dL_law_1226 dL_law_1227 dL_law_1228 ?_
  refine z_argL X hI (by decide) (by decide) dL_law_1229 dL_law_1230 dL_law_1231 dL_law_1232 dL_law_1233 ?_
  refine z_argL X hI (by decide) (by decide) dL_law_1234 dL_law_1235 dL_law_1236 dL_law_1237 dL_law_1238 ?_
  refine z_callV X.C0 rfl kc_X12_term km_RL_117 (r_X12_term 310 _ _ _ μ lw_hT12 e2) lw_hT12.1 (by decide) rfl (by decide) rfl (Nat.le_of_ble_eq_true rfl) (Nat.le_of_ble_eq_true rfl) (Nat.le_of_ble_eq_true rfl) (Nat.le_of_ble_eq_true rfl) (Nat.le_refl _) rfl rfl dL_law_1239 ?_
  exact z_icmp_eq X.C0 1461 dL_law_1242 (by decide) (fun _ => K _ h2) (fun h => absurd rfl h)
theorem lw_c25 (X : lwX p s m b meth c g κ L xs) (hI : lwI i L) (hM : Inv μ) (K : ∀ μ2, Inv μ2 → LZ p l e s m b below meth c g Q μ2 1461 i []) : LZ p l e s m b below meth c g Q μ 1247 i [] := by
  obtain ⟨rr, μ1, μ2, e1, e2, h2⟩ := meet_same (lwV xs i 1) (lwV xs i 2) (if lwV xs i 3 = 0 then 0 else 1) μ hM
  refine z_aload_n X.C0 dL_law_1247 rfl 2 rfl ?_
  refine z_argL X hI (by decide) (by decide) dL_law_1248 dL_law_1249 dL_law_1250 dL_law_1251 dL_law_1252 ?_
  refine z_argL X hI (by decide) (by decide) dL_law_1253 dL_law_1254 dL_law_1255 dL_law_1256 dL_law_1257 ?_
  refine z_argL X hI (by decide) (by decide) dL_law_1258 dL_law_1259 dL_law_1260 dL_law_1261 dL_law_1262 ?_
  refine z_boolL X dL_law_1263 dL_law_1266 dL_law_1267 dL_law_1270 ?_
  refine z_callV X.C0 rfl kc_X11_meet km_RL_118 (r_X11_meet 0 _ _ _ μ lw_hT11 e1) lw_hT11.1 (by decide) rfl (by decide) rfl (Nat.le_of_ble_eq_true rfl) (Nat.le_of_ble_eq_true rfl) (Nat.le_of_ble_eq_true rfl) (Nat.le_of_ble_eq_true rfl) (Nat.le_refl _) rfl rfl dL_law_1271 ?_
  refine z_aload_n X.C0 dL_law_1274 rfl 1 rfl ?_
  refine z_argL X hI (by decide) (by decide) dL_law_1275 dL_law_1276 dL_law_1277 dL_law_1278 dL_law_1279 ?_
  refine z_argL X hI (by decide) (by decide) dL_law_1280 dL_law_1281 dL_law_1282 dL_law_1283 dL_law_1284 ?_
  refine z_argL X hI (by decide) (by decide) dL_law_1285 dL_law_1286 dL_law_1287 dL_law_1288 dL_law_1289 ?_
  refine z_boolL X dL_law_1290 dL_law_1293 dL_law_1294 dL_law_1297 ?_
  refine z_callV X.C0 rfl kc_X12_meet km_RL_122 (r_X12_meet 310 _ _ _ μ1 lw_hT12 e2) lw_hT12.1 (by decide) rfl (by decide) rfl (Nat.le_of_ble_eq_true rfl) (Nat.le_of_ble_eq_true rfl) (Nat.le_of_ble_eq_true rfl) (Nat.le_of_ble_eq_true rfl) (Nat.le_refl _) rfl rfl dL_law_1298 ?_
  exact z_icmp_eq X.C0 1461 dL_law_1301 (by decide) (fun _ => K _ h2) (fun h => absurd rfl h)
theorem lw_c26 (X : lwX p s m b meth c g κ L xs) (hI : lwI i L) (hM : Inv μ) (K : ∀ μ2, Inv μ2 → LZ p l e s m b below meth c g Q μ2 1461 i []) : LZ p l e s m b below meth c g Q μ 1306 i [] := by
  obtain ⟨rr, μ1, μ2, e1, e2, h2⟩ := drawn_same (lwV xs i 1) (lwV xs i 2) (lwV xs i 3) (lwV xs i 4) μ hM
  refine z_aload_n X.C0 dL_law_1306 rfl 2 rfl ?_
  refine z_argL X hI (by decide) (by decide) dL_law_1307 dL_law_1308 dL_law_1309 dL_law_1310 dL_law_1311 ?_
  refine z_argL X hI (by decide) (by decide) dL_law_1312 dL_law_1313 dL_law_1314 dL_law_1315 dL_law_1316 ?_
  refine z_argL X hI (by decide) (by decide) dL_law_1317 dL_law_1318 dL_law_1319 dL_law_1320 dL_law_1321 ?_
  refine z_argL X hI (by decide) (by decide) dL_law_1322 dL_law_1323 dL_law_1324 dL_law_1325 dL_law_1326 ?_
  refine z_callV X.C0 rfl kc_X11_drawn km_RL_123 (r_X11_drawn 0 _ _ _ _ μ lw_hT11 e1) lw_hT11.1 (by decide) rfl (by decide) rfl (Nat.le_of_ble_eq_true rfl) (Nat.le_of_ble_eq_true rfl) (Nat.le_of_ble_eq_true rfl) (Nat.le_of_ble_eq_true rfl) (Nat.le_refl _) rfl rfl dL_law_1327 ?_
  refine z_aload_n X.C0 dL_law_1330 rfl 1 rfl ?_
  refine z_argL X hI (by decide) (by decide) dL_law_1331 dL_law_1332 dL_law_1333 dL_law_1334 dL_law_1335 ?_
  refine z_argL X hI (by decide) (by decide) dL_law_1336 dL_law_1337 dL_law_1338 dL_law_1339 dL_law_1340 ?_
  refine z_argL X hI (by decide) (by decide) dL_law_1341 dL_law_1342 dL_law_1343 dL_law_1344 dL_law_1345 ?_
  refine z_argL X hI (by decide) (by decide) dL_law_1346 dL_law_1347 dL_law_1348 dL_law_1349 dL_law_1350 ?_
  refine z_callV X.C0 rfl kc_X12_drawn km_RL_126 (r_X12_drawn 310 _ _ _ _ μ1 lw_hT12 e2) lw_hT12.1 (by decide) rfl (by decide) rfl (Nat.le_of_ble_eq_true rfl) (Nat.le_of_ble_eq_true rfl) (Nat.le_of_ble_eq_true rfl) (Nat.le_of_ble_eq_true rfl) (Nat.le_refl _) rfl rfl dL_law_1351 ?_
  exact z_icmp_eq X.C0 1461 dL_law_1354 (by decide) (fun _ => K _ h2) (fun h => absurd rfl h)
theorem lw_c27 (X : lwX p s m b meth c g κ L xs) (hI : lwI i L) (hM : Inv μ) (K : ∀ μ2, Inv μ2 → LZ p l e s m b below meth c g Q μ2 1461 i []) : LZ p l e s m b below meth c g Q μ 1359 i [] := by
  obtain ⟨rr, μ1, μ2, e1, e2, h2⟩ := trim_same (lwV xs i 1) (lwV xs i 2) μ hM
  obtain ⟨f1, rfl⟩ := vM_of e1
  refine z_aload_n X.C0 dL_law_1359 rfl 2 rfl ?_
  refine z_argL X hI (by decide) (by decide) dL_law_1360 dL_law_1361 dL_law_1362 dL_law_1363 dL_law_1364 ?_
  refine z_argL X hI (by decide) (by decide) dL_law_1365 dL_law_1366 dL_law_1367 dL_law_1368 dL_law_1369 ?_
  refine z_callV X.C0 rfl kc_X11_trim km_RL_127 (r_X11_trim 0 _ _ μ lw_hT11 f1) lw_hT11.1 (by decide) rfl (by decide) rfl (Nat.le_of_ble_eq_true rfl) (Nat.le_of_ble_eq_true rfl) (Nat.le_of_ble_eq_true rfl) (Nat.le_of_ble_eq_true rfl) (Nat.le_refl _) rfl rfl dL_law_1370 ?_
  refine z_aload_n X.C0 dL_law_1373 rfl 1 rfl ?_
  refine z_argL X hI (by decide) (by decide) dL_law_1374 dL_law_1375 dL_law_1376 dL_law_1377 dL_law_1378 ?_
  refine z_argL X hI (by decide) (by decide) dL_law_1379 dL_law_1380 dL_law_1381 dL_law_1382 dL_law_1383 ?_
  refine z_callV X.C0 rfl kc_X12_trim km_RL_130 (r_X12_trim 310 _ _ μ lw_hT12 e2) lw_hT12.1 (by decide) rfl (by decide) rfl (Nat.le_of_ble_eq_true rfl) (Nat.le_of_ble_eq_true rfl) (Nat.le_of_ble_eq_true rfl) (Nat.le_of_ble_eq_true rfl) (Nat.le_refl _) rfl rfl dL_law_1384 ?_
  exact z_icmp_eq X.C0 1461 dL_law_1387 (by decide) (fun _ => K _ h2) (fun h => absurd rfl h)
theorem lw_c28 (X : lwX p s m b meth c g κ L xs) (hI : lwI i L) (hM : Inv μ) (K : ∀ μ2, Inv μ2 → LZ p l e s m b below meth c g Q μ2 1461 i []) : LZ p l e s m b below meth c g Q μ 1392 i [] := by
  obtain ⟨rr, μ1, μ2, e1, e2, h2⟩ := count_same (lwV xs i 1) μ hM
  obtain ⟨f1, rfl⟩ := vM_of e1
  obtain ⟨f2, rfl⟩ := vM_of e2
  refine z_aload_n X.C0 dL_law_1392 rfl 2 rfl ?_
  refine z_argL X hI (by decide) (by decide) dL_law_1393 dL_law_1394 dL_law_1395 dL_law_1396 dL_law_1397 ?_
  refine z_callV X.C0 rfl kc_X11_count km_RL_131 (r_X11_count 0 _ μ lw_hT11 f1) lw_hT11.1 (by decide) rfl (by decide) rfl (Nat.le_of_ble_eq_true rfl) (Nat.le_of_ble_eq_true rfl) (Nat.le_of_ble_eq_true rfl) (Nat.le_of_ble_eq_true rfl) (Nat.le_refl _) rfl rfl dL_law_1398 ?_
  refine z_aload_n X.C0 dL_law_1401 rfl 1 rfl ?_
  refine z_argL X hI (by decide) (by decide) dL_law_1402 dL_law_1403 dL_law_1404 dL_law_1405 dL_law_1406 ?_
  refine z_callV X.C0 rfl kc_X12_count km_RL_134 (r_X12_count 310 _ μ lw_hT12 f2) lw_hT12.1 (by decide) rfl (by decide) rfl (Nat.le_of_ble_eq_true rfl) (Nat.le_of_ble_eq_true rfl) (Nat.le_of_ble_eq_true rfl) (Nat.le_of_ble_eq_true rfl) (Nat.le_refl _) rfl rfl dL_law_1407 ?_
  exact z_icmp_eq X.C0 1461 dL_law_1410 (by decide) (fun _ => K _ h2) (fun h => absurd rfl h)
theorem lw_c29 (X : lwX p s m b meth c g κ L xs) (hI : lwI i L) (hM : Inv μ) (K : ∀ μ2, Inv μ2 → LZ p l e s m b below meth c g Q μ2 1461 i []) : LZ p l e s m b below meth c g Q μ 1415 i [] := by
  obtain ⟨rr, μ1, μ2, e1, e2, h2⟩ := image_same (lwV xs i 1) μ hM
  refine z_aload_n X.C0 dL_law_1415 rfl 2 rfl ?_
  refine z_argL X hI (by decide) (by decide) dL_law_1416 dL_law_1417 dL_law_1418 dL_law_1419 dL_law_1420 ?_
  refine z_callV X.C0 rfl kc_X11_image km_RL_135 (r_X11_image 0 _ μ lw_hT11 e1) lw_hT11.1 (by decide) rfl (by decide) rfl (Nat.le_of_ble_eq_true rfl) (Nat.le_of_ble_eq_true rfl) (Nat.le_of_ble_eq_true rfl) (Nat.le_of_ble_eq_true rfl) (Nat.le_refl _) rfl rfl dL_law_1421 ?_
  refine z_aload_n X.C0 dL_law_1424 rfl 1 rfl ?_
  refine z_argL X hI (by decide) (by decide) dL_law_1425 dL_law_1426 dL_law_1427 dL_law_1428 dL_law_1429 ?_
  refine z_callV X.C0 rfl kc_X12_image km_RL_139 (r_X12_image 310 _ μ1 lw_hT12 e2) lw_hT12.1 (by decide) rfl (by decide) rfl (Nat.le_of_ble_eq_true rfl) (Nat.le_of_ble_eq_true rfl) (Nat.le_of_ble_eq_true rfl) (Nat.le_of_ble_eq_true rfl) (Nat.le_refl _) rfl rfl dL_law_1430 ?_
  exact z_icmp_eq X.C0 1461 dL_law_1433 (by decide) (fun _ => K _ h2) (fun h => absurd rfl h)
theorem lw_c30 (X : lwX p s m b meth c g κ L xs) (hI : lwI i L) (hM : Inv μ) (K : ∀ μ2, Inv μ2 → LZ p l e s m b below meth c g Q μ2 1461 i []) : LZ p l e s m b below meth c g Q μ 1438 i [] := by
  obtain ⟨rr, μ1, μ2, e1, e2, h2⟩ := again_same (lwV xs i 1) μ hM
  refine z_aload_n X.C0 dL_law_1438 rfl 2 rfl ?_
  refine z_argL X hI (by decide) (by decide) dL_law_1439 dL_law_1440 dL_law_1441 dL_law_1442 dL_law_1443 ?_
  refine z_callV X.C0 rfl kc_X11_again km_RL_140 (r_X11_again 0 _ μ lw_hT11 e1) lw_hT11.1 (by decide) rfl (by decide) rfl (Nat.le_of_ble_eq_true rfl) (Nat.le_of_ble_eq_true rfl) (Nat.le_of_ble_eq_true rfl) (Nat.le_of_ble_eq_true rfl) (Nat.le_refl _) rfl rfl dL_law_1444 ?_
  refine z_aload_n X.C0 dL_law_1447 rfl 1 rfl ?_
  refine z_argL X hI (by decide) (by decide) dL_law_1448 dL_law_1449 dL_law_1450 dL_law_1451 dL_law_1452 ?_
  refine z_callV X.C0 rfl kc_X12_again km_RL_143 (r_X12_again 310 _ μ1 lw_hT12 e2) lw_hT12.1 (by decide) rfl (by decide) rfl (Nat.le_of_ble_eq_true rfl) (Nat.le_of_ble_eq_true rfl) (Nat.le_of_ble_eq_true rfl) (Nat.le_of_ble_eq_true rfl) (Nat.le_refl _) rfl rfl dL_law_1453 ?_
  exact z_icmp_eq X.C0 1461 dL_law_1456 (by decide) (fun _ => K _ h2) (fun h => absurd rfl h)
theorem lw_head (X : lwX p s m b meth c g κ L xs) (hL : L ≤ 3072) (hE : ∀ μ i, LZ p l e s m b below meth c g Q μ 1467 i []) {t : Nat} (ht : 6 * t ≤ L) (K : 6 * t + 6 ≤ L → LZ p l e s m b below meth c g Q μ 27 (nI (6 * t)) []) : LZ p l e s m b below meth c g Q μ 18 (nI (6 * t)) [] := by
  refine z_iload_n X.C0 dL_law_18 rfl 0 rfl ?_
  refine z_aload_n X.C0 dL_law_19 rfl 3 rfl ?_
  refine z_slenL X dL_law_20 ?_
  refine z_bipush X.C0 (v := 6) dL_law_21 (by decide) ?_
  refine z_isub X.C0 dL_law_23 ?_
  exact z_icmp_gt X.C0 1467 dL_law_24 (by decide) (fun _ => hE _ _) (fun h => K (lw_gt ht hL h))
theorem lw_body (X : lwX p s m b meth c g κ L xs) (hL : L ≤ 3072) {t : Nat} (ht : 6 * t + 6 ≤ L) (hM : Inv μ) (K : ∀ μ2, Inv μ2 → LZ p l e s m b below meth c g Q μ2 18 (nI (6 * (t + 1))) []) : LZ p l e s m b below meth c g Q μ 27 (nI (6 * t)) [] := by
  have hI := lwI_of ht hL
  have hK : ∀ μ2, Inv μ2 → LZ p l e s m b below meth c g Q μ2 1461 (nI (6 * t)) [] := fun μ2 h2 => by
    refine z_iinc X.C0 dL_law_1461 0 rfl (w := 6) (v := nI (6 * (t + 1))) (by decide) ?_ (by decide) rfl ?_
    · show nI (6 * t) + nI 6 = _
      rw [nI_add]
      rfl
    · exact z_goto X.C0 18 dL_law_1464 (by decide) (K μ2 h2)
  refine z_aload_n X.C0 dL_law_27 rfl 3 rfl ?_
  refine z_iload_n X.C0 dL_law_28 rfl 0 rfl ?_
  refine z_sldL X (vp_nI (by omega) hL) dL_law_29 ?_
  refine z_bipush X.C0 (v := 31) dL_law_30 (by decide) ?_
  refine z_iand X.C0 dL_law_32 ?_
  obtain ⟨d, hd, hx⟩ := and31 (xs (nI (6 * t)).toNatClampNeg)
  refine z_nm hx.symm ?_
  clear hx
  rcases (by omega : d = 0 ∨ d = 1 ∨ d = 2 ∨ d = 3 ∨ d = 4 ∨ d = 5 ∨ d = 6 ∨ d = 7 ∨ d = 8 ∨ d = 9 ∨ d = 10 ∨ d = 11 ∨ d = 12 ∨ d = 13 ∨ d = 14 ∨ d = 15 ∨ d = 16 ∨ d = 17 ∨ d = 18 ∨ d = 19 ∨ d = 20 ∨ d = 21 ∨ d = 22 ∨ d = 23 ∨ d = 24 ∨ d = 25 ∨ d = 26 ∨ d = 27 ∨ d = 28 ∨ d = 29 ∨ d = 30 ∨ d = 31) with rfl | rfl | rfl | rfl | rfl | rfl | rfl | rfl | rfl | rfl | rfl | rfl | rfl | rfl | rfl | rfl | rfl | rfl | rfl | rfl | rfl | rfl | rfl | rfl | rfl | rfl | rfl | rfl | rfl | rfl | rfl | rfl
  · exact z_tabIn (off := 139) X.C0 172 dL_law_33 (by decide +kernel) (by decide +kernel) (by decide +kernel) (by decide +kernel) (lw_c0 X hI hM hK)
  · exact z_tabIn (off := 202) X.C0 235 dL_law_33 (by decide +kernel) (by decide +kernel) (by decide +kernel) (by decide +kernel) (lw_c1 X hI hM hK)
  · exact z_tabIn (off := 225) X.C0 258 dL_law_33 (by decide +kernel) (by decide +kernel) (by decide +kernel) (by decide +kernel) (lw_c2 X hI hM hK)
  · exact z_tabIn (off := 258) X.C0 291 dL_law_33 (by decide +kernel) (by decide +kernel) (by decide +kernel) (by decide +kernel) (lw_c3 X hI hM hK)
  · exact z_tabIn (off := 281) X.C0 314 dL_law_33 (by decide +kernel) (by decide +kernel) (by decide +kernel) (by decide +kernel) (lw_c4 X hI hM hK)
  · exact z_tabIn (off := 314) X.C0 347 dL_law_33 (by decide +kernel) (by decide +kernel) (by decide +kernel) (by decide +kernel) (lw_c5 X hI hM hK)
  · exact z_tabIn (off := 357) X.C0 390 dL_law_33 (by decide +kernel) (by decide +kernel) (by decide +kernel) (by decide +kernel) (lw_c6 X hI hM hK)
  · exact z_tabIn (off := 390) X.C0 423 dL_law_33 (by decide +kernel) (by decide +kernel) (by decide +kernel) (by decide +kernel) (lw_c7 X hI hM hK)
  · exact z_tabIn (off := 443) X.C0 476 dL_law_33 (by decide +kernel) (by decide +kernel) (by decide +kernel) (by decide +kernel) (lw_c8 X hI hM hK)
  · exact z_tabIn (off := 496) X.C0 529 dL_law_33 (by decide +kernel) (by decide +kernel) (by decide +kernel) (by decide +kernel) (lw_c9 X hI hM hK)
  · exact z_tabIn (off := 549) X.C0 582 dL_law_33 (by decide +kernel) (by decide +kernel) (by decide +kernel) (by decide +kernel) (lw_c10 X hI hM hK)
  · exact z_tabIn (off := 602) X.C0 635 dL_law_33 (by decide +kernel) (by decide +kernel) (by decide +kernel) (by decide +kernel) (lw_c11 X hI hM hK)
  · exact z_tabIn (off := 655) X.C0 688 dL_law_33 (by decide +kernel) (by decide +kernel) (by decide +kernel) (by decide +kernel) (lw_c12 X hI hM hK)
  · exact z_tabIn (off := 698) X.C0 731 dL_law_33 (by decide +kernel) (by decide +kernel) (by decide +kernel) (by decide +kernel) (lw_c13 X hI hM hK)
  · exact z_tabIn (off := 751) X.C0 784 dL_law_33 (by decide +kernel) (by decide +kernel) (by decide +kernel) (by decide +kernel) (lw_c14 X hI hM hK)
  · exact z_tabIn (off := 784) X.C0 817 dL_law_33 (by decide +kernel) (by decide +kernel) (by decide +kernel) (by decide +kernel) (lw_c15 X hI hM hK)
  · exact z_tabIn (off := 827) X.C0 860 dL_law_33 (by decide +kernel) (by decide +kernel) (by decide +kernel) (by decide +kernel) (lw_c16 X hI hM hK)
  · exact z_tabIn (off := 870) X.C0 903 dL_law_33 (by decide +kernel) (by decide +kernel) (by decide +kernel) (by decide +kernel) (lw_c17 X hI hM hK)
  · exact z_tabIn (off := 923) X.C0 956 dL_law_33 (by decide +kernel) (by decide +kernel) (by decide +kernel) (by decide +kernel) (lw_c18 X hI hM hK)
  · exact z_tabIn (off := 966) X.C0 999 dL_law_33 (by decide +kernel) (by decide +kernel) (by decide +kernel) (by decide +kernel) (lw_c19 X hI hM hK)
  · exact z_tabIn (off := 1009) X.C0 1042 dL_law_33 (by decide +kernel) (by decide +kernel) (by decide +kernel) (by decide +kernel) (lw_c20 X hI hM hK)
  · exact z_tabIn (off := 1062) X.C0 1095 dL_law_33 (by decide +kernel) (by decide +kernel) (by decide +kernel) (by decide +kernel) (lw_c21 X hI hM hK)
  · exact z_tabIn (off := 1095) X.C0 1128 dL_law_33 (by decide +kernel) (by decide +kernel) (by decide +kernel) (by decide +kernel) (lw_c22 X hI hM hK)
  · exact z_tabIn (off := 1128) X.C0 1161 dL_law_33 (by decide +kernel) (by decide +kernel) (by decide +kernel) (by decide +kernel) (lw_c23 X hI hM hK)
  · exact z_tabIn (off := 1171) X.C0 1204 dL_law_33 (by decide +kernel) (by decide +kernel) (by decide +kernel) (by decide +kernel) (lw_c24 X hI hM hK)
  · exact z_tabIn (off := 1214) X.C0 1247 dL_law_33 (by decide +kernel) (by decide +kernel) (by decide +kernel) (by decide +kernel) (lw_c25 X hI hM hK)
  · exact z_tabIn (off := 1273) X.C0 1306 dL_law_33 (by decide +kernel) (by decide +kernel) (by decide +kernel) (by decide +kernel) (lw_c26 X hI hM hK)
  · exact z_tabIn (off := 1326) X.C0 1359 dL_law_33 (by decide +kernel) (by decide +kernel) (by decide +kernel) (by decide +kernel) (lw_c27 X hI hM hK)
  · exact z_tabIn (off := 1359) X.C0 1392 dL_law_33 (by decide +kernel) (by decide +kernel) (by decide +kernel) (by decide +kernel) (lw_c28 X hI hM hK)
  · exact z_tabIn (off := 1382) X.C0 1415 dL_law_33 (by decide +kernel) (by decide +kernel) (by decide +kernel) (by decide +kernel) (lw_c29 X hI hM hK)
  · exact z_tabIn (off := 1405) X.C0 1438 dL_law_33 (by decide +kernel) (by decide +kernel) (by decide +kernel) (by decide +kernel) (lw_c30 X hI hM hK)
  · exact z_tabOut X.C0 1461 dL_law_33 (Or.inr (by decide +kernel)) (by decide) (hK μ hM)
theorem lw_loop (X : lwX p s m b meth c g κ L xs) (hL : L ≤ 3072) (hE : ∀ μ i, LZ p l e s m b below meth c g Q μ 1467 i []) : ∀ f t : Nat, 6 * t ≤ L → L ≤ 6 * t + f → ∀ μ : zM, Inv μ → LZ p l e s m b below meth c g Q μ 18 (nI (6 * t)) [] := by
  intro f
  induction f with
  | zero => exact fun t h1 h2 μ hM => lw_head X hL hE h1 (fun h => by omega)
  | succ f ih => exact fun t h1 h2 μ hM => lw_head X hL hE h1 (fun h => lw_body X hL h hM (fun μ2 h2 => ih (t + 1) (by omega) (by omega) μ2 h2))
theorem lw_end (X : lwX p s m b meth c g κ L xs) : ∀ μ i, LZ p l e s m b below meth c g (lw_Z below #[Value.ref b] s) μ 1467 i [] := by
  intro μ i H locs ls hR hS hl
  refine lv_iconst (v := 1) X.C0.1.1 X.C0.1.2.1 dL_law_1467 rfl ?_
  refine W.widen (k := 600000) (n := 7302250) (Nat.le_of_ble_eq_true rfl) (Nat.le_of_ble_eq_true rfl) ?_
  refine va_forget (fun q hq => ?_) ?_
  · rw [← X.hb]
    exact hS.2.2 q hq
  · exact lw_retR X.C0.1.1 X.C0.1.2.1 X.C0.2.1 X.C0.2.2.1 dL_law_1468
end LAW
