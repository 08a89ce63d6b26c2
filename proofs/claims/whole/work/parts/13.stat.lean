/-! WHAT NOBODY WRITES: the static rows AT_FIRST and BOUNDS, the words of a text (enum Word), their letters (String constants) -/
def zATF : List Int32 := [8, 8, 3, 2, 0, 0, 5, 4, 40, 1, 3]
def zBND : List Int32 := [0, 11, 0, 11, 0, 15, 1, 30, 1, 9, 1, 6, 0, 9, 0, 1, 0, 15, 1, 9, 0, 11, 0, 11]
def zWct : List Int32 := [0, 2, 4, 6, 7, 8, 9, 11, 12, 13, 14, 15, 100, 101, 102, 103, 104, 105, 106, 107, 108, 109, 200, 300, 400, 401, 402, 403, 404, 405]
def zWft : List Int32 := [2012, 1004, 11, 99, 1099, 1099, 3, 11, 15, 1009, 1006, 15, 4, 4, 3, -1, -1, -1, -1, -1, 15, 1009, 11, 7, 9, 999, 3, 9, 99, 999]
def zWst : List Int32 := [2012, 1004, 11, -1, -1, -1, 3, 11, 1030, -1, 9, 1009, 15, -1, 1009, -1, -1, -1, -1, -1, -1, -1, 11, -1, -1, 99, 99, -1, -1, -1]
def zWtt : List Int32 := [-1, -1, -1, -1, -1, -1, -1, -1, -1, -1, 1, -1, -1, -1, -1, -1, -1, -1, -1, -1, -1, -1, -1, -1, -1, -1, -1, -1, -1, -1]
def zWlt : List (List Int32) := [[108, 97, 107, 101], [114, 97, 102, 116], [97, 116], [115, 116, 105, 102, 102], [100, 114, 97, 103], [102, 108, 111, 97, 116], [98, 114, 111, 116, 104, 101, 114, 115], [114, 111, 99, 107], [103, 114, 97, 118, 101], [119, 114, 101, 97, 116, 104], [109, 111, 117, 114, 110, 101, 114], [108, 101, 97, 107], [115, 116, 97, 110, 100], [108, 101, 97, 118, 101], [119, 105, 110, 100], [99, 97, 108, 109], [102, 114, 111, 115, 116], [116, 104, 97, 119], [109, 111, 111, 114], [99, 97, 115, 116], [98, 97, 105, 108], [104, 111, 117, 114, 115], [108, 97, 121], [100, 101, 97, 100], [103, 114, 97, 118, 101], [108, 105, 115, 116], [116, 111, 117, 99, 104], [119, 97, 116, 101, 114], [111, 100, 100], [109, 111, 115, 116]]
def zWnm : List String := ["SIZE", "RAFT", "AT", "STIFF", "DRAG", "FLOAT", "BROTHERS", "ROCK", "GRAVE", "WREATH", "MOURNER", "LEAK", "STAND", "LEAVE", "WIND", "CALM", "FROST", "THAW", "MOOR", "CAST", "BAIL", "HOURS", "LAY", "DEAD", "BY_GRAVE", "BY_LIST", "BY_TOUCH", "BY_WATER", "BY_ODD", "AT_MOST"]
def zWc (i : Nat) : Int32 := zWct.getD i 0
def zWf (i : Nat) : Int32 := zWft.getD i 0
def zWs (i : Nat) : Int32 := zWst.getD i 0
def zWt (i : Nat) : Int32 := zWtt.getD i 0
def zWl (i : Nat) : List Int32 := zWlt.getD i []
abbrev zK : Type := Nat × Nat × Nat × (Nat → Nat) × (Nat → Nat) × (Nat → Nat)
abbrev kF (κ : zK) : Nat := κ.1
abbrev kB (κ : zK) : Nat := κ.2.1
abbrev kW (κ : zK) : Nat := κ.2.2.1
abbrev kad (κ : zK) : Nat → Nat := κ.2.2.2.1
abbrev ksd (κ : zK) : Nat → Nat := κ.2.2.2.2.1
abbrev kvd (κ : zK) : Nat → Nat := κ.2.2.2.2.2
def zoptW (κ : zK) (r : Option Nat) : Value := match r with
  | none => .null
  | some i => .ref (kad κ i)
def zNestM : List (String × Nat × MethodName) := [(RX11, 56, yX3_init), (RX11, 63, yX9_init), (RX11, 70, yX7_init), (RX11, 77, yX2_init), (RX5, 102, yX10_sort), (RX5, 149, yX10_takesNumber), (RX5, 155, yX10_allows), (RX5, 165, yX10_matter), (RX0, 84, yX11_isIn), (RX4, 181, yX11_isIn), (RX5, 159, yX11_isIn), (RX7, 40, yX11_isIn)]
def zSF (g : zL) (κ : zK) (U : State) : Prop :=
  (va_Z RX1 "AT_FIRST" "[I" (.ref (kF κ)) (zA g) U g.2.2.2.1 ∧ va_T .int (kF κ) 11 (fun j => .int (zATF.getD j 0)) (zA g) U g.2.2.2.1) ∧
  (va_Z RX12 "BOUNDS" "[I" (.ref (kB κ)) (zA g) U g.2.2.2.1 ∧ va_T .int (kB κ) 24 (fun j => .int (zBND.getD j 0)) (zA g) U g.2.2.2.1) ∧
  (va_Z RX5 "WORDS" "[LGraveRegatta$Word;" (.ref (kW κ)) (zA g) U g.2.2.2.1 ∧ va_T (.object RX10) (kW κ) 30 (fun j => .ref (kad κ j)) (zA g) U g.2.2.2.1) ∧
  (∀ i, i < 30 → va_Z RX10 (zWnm.getD i "") "LGraveRegatta$Word;" (.ref (kad κ i)) (zA g) U g.2.2.2.1 ∧ va_O RX10 (kad κ i) (zA g) U g.2.2.2.1 ∧ va_OF RX10 "code" "I" (.int (zWc i)) (kad κ i) (zA g) U g.2.2.2.1 ∧ va_OF RX10 "first" "I" (.int (zWf i)) (kad κ i) (zA g) U g.2.2.2.1 ∧ va_OF RX10 "second" "I" (.int (zWs i)) (kad κ i) (zA g) U g.2.2.2.1 ∧ va_OF RX10 "third" "I" (.int (zWt i)) (kad κ i) (zA g) U g.2.2.2.1 ∧ va_OF RX10 "letters" "Ljava/lang/String;" (.ref (ksd κ i)) (kad κ i) (zA g) U g.2.2.2.1) ∧
  (∀ i j, i < 30 → j < 30 → kad κ i = kad κ j → i = j) ∧
  (∀ i, i < 30 → va_O "java/lang/String" (ksd κ i) (zA g) U g.2.2.2.1 ∧ va_OF "java/lang/String" "coder" "B" (.int 0) (ksd κ i) (zA g) U g.2.2.2.1 ∧ va_OF "java/lang/String" "value" "[B" (.ref (kvd κ i)) (ksd κ i) (zA g) U g.2.2.2.1 ∧ va_T .byte (kvd κ i) (zWl i).length (fun j => .int ((zWl i).getD j 0)) (zA g) U g.2.2.2.1) ∧
  (va_Z "java/lang/String" "COMPACT_STRINGS" "Z" (.int 1) (zA g) U g.2.2.2.1 ∧ va_Zq "jdk/internal/util/Preconditions" "SIOOBE_FORMATTER" "Ljava/util/function/BiFunction;" (zA g) U g.2.2.2.1) ∧
  (∀ q ∈ zNestM, va_Nw (.methodLinkNest q.1 q.2.1 q.2.2 "GraveRegatta") U) ∧ va_Nw (.fieldLinkNest RX5 107 RX10 "letters" "Ljava/lang/String;" "GraveRegatta") U
abbrev zSK (g : zL) (κ : zK) : Prop := ∀ U : State, g.2.2.2.2 U.vm → zSF g κ U
theorem zoptW_or (κ : zK) (r : Option Nat) : zoptW κ r = .null ∨ ∃ a, zoptW κ r = .ref a := by
  cases r with
  | none => exact Or.inl rfl
  | some a => exact Or.inr ⟨_, rfl⟩
theorem zoptW_cat (κ : zK) (r : Option Nat) : (zoptW κ r).category = 1 := by
  cases r <;> rfl
section ZSTAT
variable {p : Program} {l : Launch} {e : Env} {R : Room} {s : State} {m : MethodId} {args : Array Value} {below : List Frame} {meth : Method} {c : Code} {g : zL} {Q : State → Prop} {nL N k n : Nat} {σ : Nat → Nat → Bool} {μ : zM} {cc : ByteArray} {y : MethodName} {ret : Option FieldType} {pc : Nat} {lo : List (Nat × Value)} {st : List Value}
theorem zSK.at {κ : zK} (h : zSK g κ) (C0 : zC p s m args meth c g cc y nL ret) : zSF g κ s := h s C0.2.2.2.2.2.2.2.1
theorem z_old {H : Heap} {a : Nat} (hR : zR g N σ μ H) (ha : ¬ zA g a) : H[a]? = g.2.2.2.1[a]? := hR.2.2 a (Nat.not_le.mp ha)
theorem z_gets (C0 : zC p s m args meth c g cc y nL ret) {C nm d : String} {v : Value} {idx : Nat} (hZ : va_Z C nm d v (zA g) s g.2.2.2.1) (hl : Cond.fieldLink y.cls idx C nm d ∈ ztbl) (hd : decode cc pc = .ok (.getstatic idx, 3)) (kk : Z p l e R s m args below meth c g Q nL N k n σ μ (pc + 3) lo (v :: st)) : Z p l e R s m args below meth c g Q nL N k n σ μ pc lo st := by
  intro H locs ls hR hS hl9
  refine va_gets C0.1.1 C0.1.2.1 (hZ.kept (H1 := s.heap) (fun a _ ha => C0.2.2.2.2.2.1 a (Nat.not_le.mp ha))) hS C0.1.2.2.2.1 (C0.1.2.2.2.2 _ hl) (fun _ h => h) hd (kk H locs ls hR hS hl9)
theorem z_getO (C0 : zC p s m args meth c g cc y nL ret) {C nm d : String} {v : Value} {a idx : Nat} (hF : va_OF C nm d v a (zA g) s g.2.2.2.1) (hl : Cond.fieldLink y.cls idx C nm d ∈ ztbl) (hd : decode cc pc = .ok (.getfield idx, 3)) (kk : Z p l e R s m args below meth c g Q nL N k n σ μ (pc + 3) lo (v :: st)) : Z p l e R s m args below meth c g Q nL N k n σ μ pc lo (.ref a :: st) := by
  intro H locs ls hR hS hl9
  obtain ⟨cf, kf, fi, f, cell, h1, h2, h3, h4, h5, h6⟩ := hF
  exact W.getf C0.1.1 C0.1.2.1 C0.1.2.2.2.1 (C0.1.2.2.2.2 _ hl) h1 h2 ((z_old hR h6).trans h3) h4 h5 rfl rfl hd (kk H locs ls hR hS hl9)
theorem z_getON (C0 : zC p s m args meth c g cc y nL ret) {C nm d host : String} {v : Value} {a idx : Nat} (hF : va_OF C nm d v a (zA g) s g.2.2.2.1) (hl : va_Nw (.fieldLinkNest y.cls idx C nm d host) s) (hd : decode cc pc = .ok (.getfield idx, 3)) (kk : Z p l e R s m args below meth c g Q nL N k n σ μ (pc + 3) lo (v :: st)) : Z p l e R s m args below meth c g Q nL N k n σ μ pc lo (.ref a :: st) := by
  intro H locs ls hR hS hl9
  obtain ⟨cf, kf, fi, f, cell, h1, h2, h3, h4, h5, h6⟩ := hF
  exact va_Wgetf C0.1.1 C0.1.2.1 C0.1.2.2.2.1 (va_Nw.use rfl hl) h1 h2 ((z_old hR h6).trans h3) h4 h5 rfl rfl hd (kk H locs ls hR hS hl9)
theorem z_alenT (C0 : zC p s m args meth c g cc y nL ret) {ty : FieldType} {a len : Nat} {f : Nat → Value} {v : Int32} (hT : va_T ty a len f (zA g) s g.2.2.2.1) (hv : Int32.ofNat len = v) (hd : decode cc pc = .ok (.arraylength, 1)) (kk : Z p l e R s m args below meth c g Q nL N k n σ μ (pc + 1) lo (.int v :: st)) : Z p l e R s m args below meth c g Q nL N k n σ μ pc lo (.ref a :: st) := by
  intro H locs ls hR hS hl9
  obtain ⟨cell, h1, h2, h3, h4, h5, h6, h7⟩ := hT
  exact W.alen C0.1.1 C0.1.2.1 ((z_old hR h7).trans h1) h2 (h5.trans hv) rfl rfl hd (kk H locs ls hR hS hl9)
theorem zin_T {len q : Nat} {i : Int32} (hin : zin i len = true) (h : len ≤ q) : ¬ (i < 0 ∨ q ≤ i.toNatClampNeg) := by
  have h1 := zin_vp hin
  have h2 := zin_lt hin
  intro h3
  rcases h3 with h3 | h3
  · exact h1 (Or.inl h3)
  · omega
theorem z_ialdT (C0 : zC p s m args meth c g cc y nL ret) {a len j : Nat} {f : Nat → Int32} {i : Int32} (hT : va_T .int a len (fun j => .int (f j)) (zA g) s g.2.2.2.1) (hin : zin i len = true) (hj : i.toNatClampNeg = j) (hd : decode cc pc = .ok (.iaload, 1)) (kk : Z p l e R s m args below meth c g Q nL N k n σ μ (pc + 1) lo (.int (f j) :: st)) : Z p l e R s m args below meth c g Q nL N k n σ μ pc lo (.int i :: .ref a :: st) := by
  subst hj
  intro H locs ls hR hS hl9
  obtain ⟨cell, h1, h2, h3, h4, h5, h6, h7⟩ := hT
  exact W.iald C0.1.1 C0.1.2.1 ((z_old hR h7).trans h1) h2 h3 (zin_T hin h4) (h6 _ (zin_lt hin)) rfl rfl hd (kk H locs ls hR hS hl9)
theorem z_baldT (C0 : zC p s m args meth c g cc y nL ret) {a len j : Nat} {f : Nat → Int32} {i : Int32} (hT : va_T .byte a len (fun j => .int (f j)) (zA g) s g.2.2.2.1) (hin : zin i len = true) (hj : i.toNatClampNeg = j) (hd : decode cc pc = .ok (.baload, 1)) (kk : Z p l e R s m args below meth c g Q nL N k n σ μ (pc + 1) lo (.int (f j) :: st)) : Z p l e R s m args below meth c g Q nL N k n σ μ pc lo (.int i :: .ref a :: st) := by
  subst hj
  intro H locs ls hR hS hl9
  obtain ⟨cell, h1, h2, h3, h4, h5, h6, h7⟩ := hT
  exact W.bald C0.1.1 C0.1.2.1 ((z_old hR h7).trans h1) h2 h3 (zin_T hin h4) (h6 _ (zin_lt hin)) rfl rfl hd (kk H locs ls hR hS hl9)
theorem z_aaldT (C0 : zC p s m args meth c g cc y nL ret) {a len j : Nat} {f : Nat → Nat} {i : Int32} {C : String} (hT : va_T (.object C) a len (fun j => .ref (f j)) (zA g) s g.2.2.2.1) (hin : zin i len = true) (hj : i.toNatClampNeg = j) (hd : decode cc pc = .ok (.aaload, 1)) (kk : Z p l e R s m args below meth c g Q nL N k n σ μ (pc + 1) lo (.ref (f j) :: st)) : Z p l e R s m args below meth c g Q nL N k n σ μ pc lo (.int i :: .ref a :: st) := by
  subst hj
  intro H locs ls hR hS hl9
  obtain ⟨cell, h1, h2, h3, h4, h5, h6, h7⟩ := hT
  exact W.aald (ty := .object C) C0.1.1 C0.1.2.1 ((z_old hR h7).trans h1) h2 rfl h3 (zin_T hin h4) (h6 _ (zin_lt hin)) rfl rfl hd (kk H locs ls hR hS hl9)
theorem z_i2c (C0 : zC p s m args meth c g cc y nL ret) {x v : Int32} (hd : decode cc pc = .ok (.i2c, 1)) (hv : (x.toUInt32 % 65536).toInt32 = v) (kk : Z p l e R s m args below meth c g Q nL N k n σ μ (pc + 1) lo (.int v :: st)) : Z p l e R s m args below meth c g Q nL N k n σ μ pc lo (.int x :: st) := fun H locs ls hR hS hl => lv_i2c C0.1.1 C0.1.2.1 hd hv (kk H locs ls hR hS hl)
theorem z_nret (C0 : zC p s m args meth c g cc y nL ret) {v : Int32} {ty : FieldType} (hr : ret = some ty) (hb : narrow ty (.int v) = .int v) (hd : decode cc pc = .ok (.ireturn, 1)) : Z p l e R s m args below meth c g (MQ below (zQ g N σ (some (.int v)) μ) args s k n (zA g)) nL N k n σ μ pc lo [.int v] :=
  fun H locs ls hR hS hl => W.zret C0.1.1 C0.1.2.1 (C0.2.1.trans hr) hb (fun t ht hW => ⟨rfl, by rw [ht]; exact hR⟩) hS.2.2 hd C0.2.2.1
theorem z_recvO {H : Heap} {C : String} {a : Nat} (hR : zR g N σ μ H) (hO : va_O C a (zA g) s g.2.2.2.1) : ∃ cellB : Cell, H[a]? = some cellB ∧ cellB.vm.isStatics = false ∧ s.vm.findClass C = some cellB.cls := by
  obtain ⟨cell, h1, h2, h3, h4⟩ := hO
  exact ⟨cell, (z_old hR h4).trans h1, h2, h3⟩
theorem z_callVO (C0 : zC p s m args meth c g cc y nL ret) {Cn : String} {yc : MethodName} {bc : ByteArray} {nLc nc idx d' a d RC RS : Nat} {retc : Option FieldType} {μ' : zM} {rv : Option Value} {As rest st1 st2 : List Value} (hRR : R = zrm d RC RS)
    (hc : zCalV Cn yc bc nLc retc nc) (hlk : Cond.methodLink y.cls idx yc ∈ ztbl) (hM : zMet l g yc bc nLc retc d' 0 0 N N σ σ (.ref a :: As) μ rv μ') (hO : va_O Cn a (zA g) s g.2.2.2.1) (hn : As.length = nc)
    (hst : (rest.map fun v => v.category).sum ≤ 8) (hr : d' + 1 ≤ d) (hcc : k ≤ RC) (hss : n ≤ RS) (h1 : st1 = As.reverse ++ .ref a :: rest) (h2 : rv.toList ++ rest = st2) (hd : decode cc pc = .ok (.invokevirtual idx, 3))
    (kk : Z p l e R s m args below meth c g Q nL N k n σ μ' (pc + 3) lo st2) : Z p l e R s m args below meth c g Q nL N k n σ μ pc lo st1 := by
  subst hRR; subst h1
  obtain ⟨w1, w2, w3, w4, w5, w6, w7, w8, w9⟩ := hc
  refine z_back (a := (Value.ref a :: As).toArray) (mc := 0) (ms := 0) C0 (d := d) (RC := RC) (RS := RS) (Nat.le_refl _) h2 (fun H locs ls hR hS hl => ?_) kk
  have hts := C0.1.2.2.2.2
  exact va_runV (As := As) (rest := rest) C0.1 hM ⟨callB_of nc hts (good_ws (ws := .code yc bc nLc retc :: ztbl) (fun w hw => by
      rcases List.mem_cons.mp hw with h | h
      · rw [h]; exact w3
      · exact h)) rfl rfl rfl (hts _ w4) (hts _ hlk) ⟨w7, w8, w9⟩ (zroom hr w5), hts _ w1, hts _ w2⟩ ⟨zIn_blind, z_recvO hR hO, fun U hU hW => ⟨rfl, zIn_at C0 hR U hU hW⟩⟩ rfl hn hl.1 rfl (lv_room hst) hd ⟨hcc, hss⟩
theorem z_callVON (C0 : zC p s m args meth c g cc y nL ret) {Cn host : String} {yc : MethodName} {bc : ByteArray} {nLc nc idx d' a d RC RS : Nat} {retc : Option FieldType} {μ' : zM} {rv : Option Value} {As rest st1 st2 : List Value} (hRR : R = zrm d RC RS)
    (hc : zCalV Cn yc bc nLc retc nc) (hlk : va_Nw (.methodLinkNest y.cls idx yc host) s) (hM : zMet l g yc bc nLc retc d' 0 0 N N σ σ (.ref a :: As) μ rv μ') (hO : va_O Cn a (zA g) s g.2.2.2.1) (hn : As.length = nc)
    (hst : (rest.map fun v => v.category).sum ≤ 8) (hr : d' + 1 ≤ d) (hcc : k ≤ RC) (hss : n ≤ RS) (h1 : st1 = As.reverse ++ .ref a :: rest) (h2 : rv.toList ++ rest = st2) (hd : decode cc pc = .ok (.invokevirtual idx, 3))
    (kk : Z p l e R s m args below meth c g Q nL N k n σ μ' (pc + 3) lo st2) : Z p l e R s m args below meth c g Q nL N k n σ μ pc lo st1 := by
  subst hRR; subst h1
  obtain ⟨w1, w2, w3, w4, w5, w6, w7, w8, w9⟩ := hc
  refine z_back (a := (Value.ref a :: As).toArray) (mc := 0) (ms := 0) C0 (d := d) (RC := RC) (RS := RS) (Nat.le_refl _) h2 (fun H locs ls hR hS hl => ?_) kk
  have hts := C0.1.2.2.2.2
  exact va_runVN (As := As) (rest := rest) C0.1 hM ⟨va_cnB nc hts (good_ws (ws := .code yc bc nLc retc :: ztbl) (fun w hw => by
      rcases List.mem_cons.mp hw with h | h
      · rw [h]; exact w3
      · exact h)) rfl rfl rfl hlk (hts _ w4) ⟨w7, w8, w9⟩ (zroom hr w5), hts _ w1, hts _ w2⟩ ⟨zIn_blind, z_recvO hR hO, fun U hU hW => ⟨rfl, zIn_at C0 hR U hU hW⟩⟩ rfl hn hl.1 rfl (lv_room hst) hd ⟨hcc, hss⟩
/-- a static call of a nest mate's private method -/
theorem z_callSN (C0 : zC p s m args meth c g cc y nL ret) {host : String} {yc : MethodName} {bc : ByteArray} {nLc nc idx d' d RC RS : Nat} {retc : Option FieldType} {μ' : zM} {rv : Option Value} {As rest st1 st2 : List Value} (hRR : R = zrm d RC RS)
    (hc : zCalS yc bc nLc retc nc) (hlk : va_Nw (.methodLinkNest y.cls idx yc host) s) (hM : zMet l g yc bc nLc retc d' 0 0 N N σ σ As μ rv μ') (hn : As.length = nc)
    (hst : (rest.map fun v => v.category).sum ≤ 8) (hr : d' + 1 ≤ d) (hcc : k ≤ RC) (hss : n ≤ RS) (h1 : st1 = As.reverse ++ rest) (h2 : rv.toList ++ rest = st2) (hd : decode cc pc = .ok (.invokestatic idx, 3))
    (kk : Z p l e R s m args below meth c g Q nL N k n σ μ' (pc + 3) lo st2) : Z p l e R s m args below meth c g Q nL N k n σ μ pc lo st1 := by
  subst hRR; subst h1
  obtain ⟨w1, w3, w4, w5, w7, w8, w9⟩ := hc
  refine z_back (a := As.toArray) (mc := 0) (ms := 0) C0 (d := d) (RC := RC) (RS := RS) (Nat.le_refl _) h2 (fun H locs ls hR hS hl => ?_) kk
  have hts := C0.1.2.2.2.2
  exact va_runSN (As := As) (rest := rest) C0.1 hM ⟨va_cnB nc hts (good_ws (ws := .code yc bc nLc retc :: ztbl) (fun w hw => by
      rcases List.mem_cons.mp hw with h | h
      · rw [h]; exact w3
      · exact h)) rfl rfl rfl hlk (hts _ w4) ⟨w7, w8, w9⟩ (zroom hr w5), hts _ w1, trivial⟩ ⟨zIn_blind, fun U hU hW => ⟨rfl, zIn_at C0 hR U hU hW⟩⟩ rfl hn hl.1 rfl (lv_room hst) hd ⟨hcc, hss⟩
theorem z_if_eqI (C0 : zC p s m args meth c g cc y nL ret) {a b : Int32} {off : Int} (tgt : Nat) (hd : decode cc pc = .ok (.ifCond .eq off, 3)) (ht : (pc : Int) + off = (tgt : Int)) (kt : ¬ ((a >>> (b &&& 31)) &&& (1 : Int32)) = (1 : Int32) → Z p l e R s m args below meth c g Q nL N k n σ μ tgt lo st) (kf : ((a >>> (b &&& 31)) &&& (1 : Int32)) = (1 : Int32) → Z p l e R s m args below meth c g Q nL N k n σ μ (pc + 3) lo st) : Z p l e R s m args below meth c g Q nL N k n σ μ pc lo (.int (if ¬ ((a >>> (b &&& 31)) &&& (1 : Int32)) = (1 : Int32) then (0 : Int32) else (1 : Int32)) :: st) :=
  z_if_eq C0 tgt hd ht (fun q => kt (fun w => by rw [if_neg (fun t => t w)] at q; exact absurd q (by decide))) (fun q => kf (Decidable.of_not_not (fun w => q (if_pos w))))
theorem z_if_neI (C0 : zC p s m args meth c g cc y nL ret) {a b : Int32} {off : Int} (tgt : Nat) (hd : decode cc pc = .ok (.ifCond .ne off, 3)) (ht : (pc : Int) + off = (tgt : Int)) (kt : ((a >>> (b &&& 31)) &&& (1 : Int32)) = (1 : Int32) → Z p l e R s m args below meth c g Q nL N k n σ μ tgt lo st) (kf : ¬ ((a >>> (b &&& 31)) &&& (1 : Int32)) = (1 : Int32) → Z p l e R s m args below meth c g Q nL N k n σ μ (pc + 3) lo st) : Z p l e R s m args below meth c g Q nL N k n σ μ pc lo (.int (if ¬ ((a >>> (b &&& 31)) &&& (1 : Int32)) = (1 : Int32) then (0 : Int32) else (1 : Int32)) :: st) :=
  z_if_ne C0 tgt hd ht (fun q => kt (Decidable.of_not_not (fun w => q (if_pos w)))) (fun q => kf (fun w => by rw [if_neg (fun t => t w)] at q; exact absurd q (by decide)))
end ZSTAT
