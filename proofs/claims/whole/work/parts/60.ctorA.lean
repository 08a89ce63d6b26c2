/-! THE CONSTRUCTORS WITH NESTED OBJECTS AND ROWS OF OBJECTS (by program: tools/mkctor2.py) -/
/-- what is written while the object at a is under construction: its fields ks; two rows b, c of it as far as J, L say -/
def zsq (σ : Nat → Nat → Bool) (a : Nat) (ks : List Nat) (b : Nat) (J : Nat → Bool) (c : Nat) (L : Nat → Bool) : Nat → Nat → Bool := fun o k => if o = a then ks.contains k else if o = b then J k else if o = c then L k else if a < o then true else σ o k
def zAO (g : zL) : Prop := ∀ U : State, g.2.2.2.2 U.vm → va_AO RX1 U ∧ va_AO RX6 U ∧ va_AO RX8 U ∧ (Cond.arrayOver (.array .int)).before #[] U = true
theorem zval_ref {B : Nat} {s : Nat → Bool} {r : Nat → Int32} {ci o k b : Nat} (hr : zrk ci k = 1) (hs : s k = true) (hb : zFX o k = b) : zval B s r ci o k = .ref (B + b) := by
  simp [zval, hr, hs, hb]
theorem zsq_put (σ : Nat → Nat → Bool) (a : Nat) (ks : List Nat) (k b : Nat) (J : Nat → Bool) (c : Nat) (L : Nat → Bool) (N : Nat) : ∀ q, q < N → ∀ j, zsq σ a (k :: ks) b J c L q j = zsu (zsq σ a ks b J c L) a k q j := by
  intro q _ j
  unfold zsq zsu
  by_cases h : q = a
  · subst h
    by_cases h2 : j = k
    · subst h2
      simp
    · simp [h2]
  · simp [h]
theorem zst_zsq (σ : Nat → Nat → Bool) {a b c N : Nat} (ks : List Nat) (J L : Nat → Bool) (h : a < N) (hb : b < N) (hc : c < N) : zst (zsq σ a ks b J c L) N = zsq σ a ks b J c L := by
  funext o k
  unfold zst zsq
  by_cases h1 : N ≤ o
  · rw [if_pos h1, if_neg (by omega), if_neg (by omega), if_neg (by omega), if_pos (by omega)]
  · rw [if_neg h1]
theorem zsq_new1 {σ : Nat → Nat → Bool} {a N c : Nat} {ks : List Nat} {L : Nat → Bool} {j : Nat} (h : a < N) : zsq σ a ks N (fun k => decide (k < 0)) c L N j = false := by
  unfold zsq
  rw [if_neg (by omega), if_pos rfl]
  rfl
theorem zsq_old1 {σ : Nat → Nat → Bool} {a N q : Nat} {ks : List Nat} (h : q < N) : zsq σ a ks N (fun k => decide (k < 0)) a (fun _ => true) q = zsw σ a ks q := by
  funext j
  unfold zsq zsw
  by_cases h1 : q = a
  · rw [if_pos h1, if_pos h1]
  · rw [if_neg h1, if_neg h1, if_neg (by omega), if_neg h1]
theorem zsq_new2 {σ : Nat → Nat → Bool} {a N b : Nat} {ks : List Nat} {J : Nat → Bool} {j : Nat} (h : a < N ∧ b < N) : zsq σ a ks b J N (fun k => decide (k < 0)) N j = false := by
  unfold zsq
  rw [if_neg (by omega), if_neg (by omega), if_pos rfl]
  rfl
theorem zsq_old2 {σ : Nat → Nat → Bool} {a b N q : Nat} {ks : List Nat} {J : Nat → Bool} (h : q < N) : zsq σ a ks b J N (fun k => decide (k < 0)) q = zsq σ a ks b J a (fun _ => true) q := by
  funext j
  unfold zsq
  by_cases h1 : q = a
  · rw [if_pos h1, if_pos h1]
  · rw [if_neg h1, if_neg h1, if_neg (show ¬ q = N by omega), if_neg h1]
theorem zsq_sto1 {σ : Nat → Nat → Bool} {a b c N i : Nat} {ks : List Nat} {L : Nat → Bool} (h : a < b) : ∀ q, q < N → ∀ j, zsq σ a ks b (fun k => decide (k < i + 1)) c L q j = zsu (zsq σ a ks b (fun k => decide (k < i)) c L) b i q j := by
  intro q _ j
  unfold zsu zsq
  by_cases h1 : q = b
  · subst h1
    rw [if_neg (by omega), if_pos rfl]
    by_cases h2 : j = i
    · subst h2
      simp
    · rw [if_neg (by omega), if_neg (by omega), if_pos rfl]
      exact decide_eq_decide.mpr (by omega)
  · rw [if_neg (show ¬ (q = b ∧ j = i) from fun w => h1 w.1)]
    simp only [if_neg h1]
theorem zsq_sto2 {σ : Nat → Nat → Bool} {a b c N i : Nat} {ks : List Nat} {J : Nat → Bool} (h : a < c ∧ b < c) : ∀ q, q < N → ∀ j, zsq σ a ks b J c (fun k => decide (k < i + 1)) q j = zsu (zsq σ a ks b J c (fun k => decide (k < i))) c i q j := by
  intro q _ j
  unfold zsu zsq
  by_cases h1 : q = c
  · subst h1
    rw [if_neg (by omega), if_neg (by omega), if_pos rfl]
    by_cases h2 : j = i
    · subst h2
      simp
    · rw [if_neg (by omega), if_neg (by omega), if_neg (by omega), if_pos rfl]
      exact decide_eq_decide.mpr (by omega)
  · rw [if_neg (show ¬ (q = c ∧ j = i) from fun w => h1 w.1)]
    simp only [if_neg h1]
theorem zsq_end {σ : Nat → Nat → Bool} {a ci N b c : Nat} {ks : List Nat} {J L : Nat → Bool} (hk : zkd a = ci) (hc : ci < 20) (h : (List.range (znf ci)).all (fun i => decide (zrk ci i ≠ 1) || ks.contains i) = true) (hab : a < b ∧ (a < c ∨ c = a)) (hkb : 22 ≤ zkd b) (hkc : 22 ≤ zkd c ∨ c = a) (hJ : ∀ k, k < zln b → J k = true) (hL : ∀ k, k < zln c → L k = true) :
    ∀ o, o < N → ∀ i, (zkd o < 20 → i < znf (zkd o) → zrk (zkd o) i = 1 → zst σ a o i = zsq σ a ks b J c L o i) ∧ (22 ≤ zkd o → i < zln o → zst σ a o i = zsq σ a ks b J c L o i) := by
  intro o _ i
  by_cases ho : o = a
  · subst ho
    refine ⟨fun _ h2 h3 => ?_, fun h2 _ => by omega⟩
    rw [hk] at h2 h3
    have h4 := List.all_eq_true.mp h i (List.mem_range.mpr h2)
    simp only [Bool.or_eq_true, decide_eq_true_eq] at h4
    rcases h4 with h4 | h4
    · exact absurd h3 h4
    · unfold zst zsq
      rw [if_pos (Nat.le_refl _), if_pos rfl, h4]
  · by_cases h1 : o = b
    · subst h1
      refine ⟨fun w => by omega, fun _ w => ?_⟩
      unfold zst zsq
      rw [if_neg ho, if_pos rfl, hJ i w, if_pos (by omega)]
    · by_cases h2 : o = c
      · subst h2
        refine ⟨fun w => by omega, fun _ w => ?_⟩
        unfold zst zsq
        rw [if_neg ho, if_neg h1, if_pos rfl, hL i w, if_pos (by omega)]
      · have : zst σ a o i = zsq σ a ks b J c L o i := by
          unfold zst zsq
          rw [if_neg ho, if_neg h1, if_neg h2]
          by_cases h3 : a ≤ o
          · rw [if_pos h3, if_pos (by omega)]
          · rw [if_neg h3, if_neg (by omega)]
        exact ⟨fun _ _ _ => this, fun _ _ => this⟩
section ZMAKE2
variable {p : Program} {l : Launch} {e : Env} {R : Room} {s : State} {m : MethodId} {args : Array Value} {below : List Frame} {meth : Method} {c : Code} {g : zL} {Q : State → Prop} {nL N k n : Nat} {σ : Nat → Nat → Bool} {μ : zM} {cc : ByteArray} {y : MethodName} {ret : Option FieldType} {pc : Nat} {lo : List (Nat × Value)} {st : List Value}
theorem z_sigA {σ' : Nat → Nat → Bool} (h : ∀ o, o < N → ∀ i, (zkd o < 20 → i < znf (zkd o) → zrk (zkd o) i = 1 → σ' o i = σ o i) ∧ (22 ≤ zkd o → i < zln o → σ' o i = σ o i)) (kk : Z p l e R s m args below meth c g Q nL N k n σ' μ pc lo st) : Z p l e R s m args below meth c g Q nL N k n σ μ pc lo st := by
  intro H locs ls hR hS hl
  refine kk H locs ls ⟨fun k q hk => ?_, hR.2⟩ hS hl
  have h1 := zW_at hk
  rw [zW_get h1.1] at hk
  cases hk
  have h2 := hR.1 k _ (zW_get h1.1)
  have h3 : zent g σ μ k = zenr g (σ k) (μ k) k := rfl
  rw [h3] at h2
  show va_at g.1 zcls (zb g + k, zenr g (σ' k) (μ k) k) H
  unfold zenr at h2 ⊢
  by_cases h4 : zkd k < 20
  · rw [if_pos h4] at h2 ⊢
    have h5 : (List.range (znf (zkd k))).map (zval (zb g) (σ' k) (μ k) (zkd k) k) = (List.range (znf (zkd k))).map (zval (zb g) (σ k) (μ k) (zkd k) k) := by
      refine List.map_congr_left fun i hi => ?_
      have hi := List.mem_range.mp hi
      unfold zval
      by_cases h6 : zrk (zkd k) i = 1
      · rw [(h k h1.1 i).1 h4 hi h6]
      · simp [h6]
    rw [h5]
    exact h2
  · rw [if_neg h4] at h2 ⊢
    by_cases h5 : zkd k < 22
    · rw [if_pos h5] at h2 ⊢
      exact h2
    · rw [if_neg h5] at h2 ⊢
      have h2 : H[zb g + k]? = some (vp_cell _ _) := h2
      show H[zb g + k]? = some (vp_cell _ _)
      rw [h2, vp_cell_q, vp_cell_q]
      refine congrArg some (arrV_same fun j hj => ?_)
      rw [(h k h1.1 j).2 (by omega) hj]
theorem z_callINw (C0 : zC p s m args meth c g cc y nL ret) {host : String} {yc : MethodName} {bc : ByteArray} {nLc nc idx d' mc ms N' o d RC RS : Nat} {σ' : Nat → Nat → Bool} {μ' : zM} {As rest st1 : List Value} (hRR : R = zrm d RC RS)
    (hin : Cond.instanceMethod yc ∈ ztbl) (w3 : Cond.code yc bc nLc none ∈ ztbl) (w4 : Cond.initialized yc.cls ∈ ztbl) (w5 : nLc ≤ 45) (w7 : yc.cls ≠ "java/lang/invoke/MethodHandle" ∧ yc.cls ≠ "java/lang/invoke/VarHandle" ∧ (parseMethodDescriptor yc.desc).map (fun d => d.parameters.length) = some nc) (hnm : yc.name = "<init>") (hnest : va_Nw (.methodLinkNest y.cls idx yc host) s)
    (hM : zMet l g yc bc nLc none d' mc ms N N' σ σ' (.ref (zb g + o) :: As) μ none μ') (hn : As.length = nc)
    (hst : (rest.map fun v => v.category).sum ≤ 8) (hr : d' + 1 ≤ d) (hcc : k + mc ≤ RC) (hss : n + ms ≤ RS) (hNN : N ≤ N') (h1 : st1 = As.reverse ++ .ref (zb g + o) :: rest) (hd : decode cc pc = .ok (.invokespecial idx, 3))
    (kk : Z p l e R s m args below meth c g Q nL N' (k + mc) (n + ms) σ' μ' (pc + 3) lo rest) : Z p l e R s m args below meth c g Q nL N k n σ μ pc lo st1 := by
  subst hRR; subst h1
  refine z_back (a := (Value.ref (zb g + o) :: As).toArray) (rv := none) C0 (d := d) (RC := RC) (RS := RS) hNN rfl (fun H locs ls hR hS hl => ?_) kk
  have hts := C0.1.2.2.2.2
  exact va_runIN (As := As) (rest := rest) C0.1 hM ⟨va_cnB nc hts (good_ws (ws := .code yc bc nLc none :: ztbl) (fun w hw => by
      rcases List.mem_cons.mp hw with h | h
      · rw [h]; exact w3
      · exact h)) rfl rfl rfl hnest (hts _ w4) w7 (zroom hr w5), hnm, hts _ hin⟩ ⟨zIn_blind, fun U hU hW => ⟨rfl, zIn_at C0 hR U hU hW⟩⟩ rfl hn hl.1 rfl (lv_room hst) hd ⟨hcc, hss⟩
end ZMAKE2

def i_X3 (a0 : Nat) (μ : zM) : zM := (zupr μ (a0 + 1) (fun _ => 0))
def i_X9 (a0 : Nat) (μ : zM) : zM := (zupr (zupr (zupr (zupr μ (a0 + 1) (fun _ => 0)) (a0 + 2) (fun _ => 0)) (a0 + 3) (fun _ => 0)) (a0 + 4) (fun _ => 0))
def i_X2 (a0 : Nat) (μ : zM) : zM := (fun q => if a0 + 3 ≤ q then (fun _ => 0) else (zupr (zupr μ (a0 + 1) (fun _ => 0)) (a0 + 2) (fun _ => 0)) q)
def i_X7 (a0 : Nat) (μ : zM) : zM := (fun q => if a0 + 11 ≤ q then (fun _ => 0) else (fun q => if a0 + 1 ≤ q then (fun _ => 0) else μ q) q)
def i_X4 (a0 : Nat) (b0 : Nat) (μ : zM) : zM := (zup (zup (zupr (zupr μ (a0 + 1) (fun _ => 0)) (a0 + 2) (fun _ => 0)) a0 0 (nI b0)) a0 1 (nI b0))
def i_X0 (a0 : Nat) (b0 : Nat) (μ : zM) : zM := (zup (zup (zupr (zupr (znew (zupr (zupr (zupr (zupr (zupr (zupr (zupr μ (a0 + 1) (fun _ => 0)) (a0 + 2) (fun _ => 0)) (a0 + 3) (fun _ => 0)) (a0 + 4) (fun _ => 0)) (a0 + 5) (fun _ => 0)) (a0 + 6) (fun _ => 0)) (a0 + 7) (fun _ => 0)) (a0 + 8) 4) (a0 + 8 + 1) (fun _ => 0)) (a0 + 8 + 2) (fun _ => 0)) (a0 + 8) 0 (nI b0)) (a0 + 8) 1 (nI b0))
def i_X6 (a0 : Nat) (v : Int32) (μ : zM) : zM := zupr (zup (znew μ a0 6) a0 0 (zmax 0 v)) (a0 + 1) (fun _ => 0)
theorem zfx_1_0 : ∀ a, a < zNN → zkd a = 1 → zkd (a + 2) = 6 ∧ zln (a + 2 + 1) = 60 ∧ zkd (a + 4) = 6 ∧ zln (a + 4 + 1) = 36 ∧ zkd (a + 6) = 6 := by decide +kernel
theorem zfx_1_1 : ∀ a, a < zNN → zkd a = 1 → zln (a + 6 + 1) = 18 ∧ zkd (a + 8) = 6 ∧ zln (a + 8 + 1) = 15 ∧ zkd (a + 10) = 6 ∧ zln (a + 10 + 1) = 12 := by decide +kernel
def f_X1_init (a0 : Nat) (μ : zM) : Option zM :=
  zbd (f_X1_forget a0 (zupr (zupr (zupr (i_X6 (a0 + 10) 4 (i_X6 (a0 + 8) 5 (i_X6 (a0 + 6) 6 (i_X6 (a0 + 4) 12 (i_X6 (a0 + 2) 20 (zupr μ (a0 + 1) (fun _ => 0))))))) (a0 + 12) (fun _ => 0)) (a0 + 13) (fun _ => 0)) (a0 + 14) (fun _ => 0))) fun μ1 =>
  zbd (f_X1_settle a0 μ1) fun μ2 =>
  some μ2
set_option maxHeartbeats 4000000 in
set_option maxRecDepth 100000 in
theorem m_X1_init {l : Launch} {g : zL} {κ : zK} (a0 : Nat) (σ : Nat → Nat → Bool) (μ : zM) (hSp : zSK g κ) (hk : zkd a0 = 1) {μr : zM} (h : f_X1_init a0 μ = some μr) : zMet l g yX1_init cX1_init 1 none 2 14 213 (a0 + 1) (a0 + 15) (zsw σ a0 []) (zst σ a0) [.ref (zb g + a0)] μ none μr := by
  have ha0 : a0 < 324 := zkd_lt (by omega)
  unfold f_X1_init at h
  obtain ⟨hx2, hw2, hx4, hw4, hx6⟩ := zfx_1_0 a0 ha0 hk
  obtain ⟨hw6, hx8, hw8, hx10, hw10⟩ := zfx_1_1 a0 ha0 hk
  have hz0 := zs_1_0 (zT_of hk (by decide))
  have hz1 := zs_1_1 (zT_of hk (by decide))
  have hz2 := zs_1_2 (zT_of hk (by decide))
  have hz3 := zs_1_3 (zT_of hk (by decide))
  have hz4 := zs_1_4 (zT_of hk (by decide))
  have hz5 := zs_1_5 (zT_of hk (by decide))
  have hz9 := zs_1_9 (zT_of hk (by decide))
  have hz10 := zs_1_10 (zT_of hk (by decide))
  have hz11 := zs_1_11 (zT_of hk (by decide))
  refine zMet.of (by decide +kernel) (Nat.le_of_ble_eq_true rfl) ?_
  intro p e s m args below meth c C0
  refine z_loc (lo1 := [(0, .ref (zb g + a0))]) rfl ?_
  refine z_aload_n C0 dX1_init_0 rfl 0 rfl ?_
  refine z_oini C0 rfl (by decide) kO_RX1_3 kO_i kO_b kO_c dX1_init_1 ?_
  refine z_aload_n C0 dX1_init_4 rfl 0 rfl ?_
  refine z_bipush C0 dX1_init_5 (v := 11) rfl ?_
  refine z_newA C0 (len := 11) (t0 := 0) (kind := 20) (ty := .int) rfl rfl rfl hz0.2.2.1 (by decide) hz0.2.2.2 kar_int (Or.inl rfl) (by decide) (by decide) (by decide) (by decide) (by decide) dX1_init_7 ?_
  refine z_putr C0 (σ1 := zsw σ a0 [0]) hk (by omega) kf_1_11 zpf_1_0 rfl (fun q => ⟨rfl, rfl⟩) zr_1_0 hz0.1 (zsw_put σ a0 [] 0 _) dX1_init_9 ?_
  refine z_aload_n C0 dX1_init_12 rfl 0 rfl ?_
  refine z_newo (σ' := zsw (zsw σ a0 [0]) (a0 + 2) []) C0 rfl zcl_6 hx2 kcl_RX1_15 kin_RX6 kii_RX6 zdv_6 (fun j _ _ => zsw_new _ _ _) (fun q hq => zsw_lo _ hq) (by decide) (by decide) dX1_init_13 ?_
  refine z_dup C0 dX1_init_16 rfl ?_
  refine z_bipush C0 dX1_init_17 (v := 20) rfl ?_
  refine z_callI C0 (nc := 1) (o := a0 + 2) (As := [.int 20]) (rest := [.ref (zb g + (a0 + 2)), .ref (zb g + a0)]) rfl kc_X6_init.1 kc_X6_init.2.1 kc_X6_init.2.2 (by decide) ⟨by decide, by decide, by decide +kernel⟩ rfl km_RX1_17 (m_X6_init (a0 + 2) (zsw σ a0 [0]) _ 20 (w := 60) hx2 hw2 (by decide) (by decide) (by decide)) rfl (Nat.le_of_ble_eq_true rfl) (by decide) (by decide) (by decide) (by omega) rfl dX1_init_19 ?_
  rw [zst_zsw σ [0] (by omega)]
  refine z_putr C0 (σ1 := zsw σ a0 [1, 0]) hk (by omega) kf_1_20 zpf_1_1 rfl (fun q => ⟨rfl, rfl⟩) zr_1_1 hz1.1 (zsw_put σ a0 [0] 1 _) dX1_init_22 ?_
  refine z_aload_n C0 dX1_init_25 rfl 0 rfl ?_
  refine z_newo (σ' := zsw (zsw σ a0 [1, 0]) (a0 + 4) []) C0 rfl zcl_6 hx4 kcl_RX1_15 kin_RX6 kii_RX6 zdv_6 (fun j _ _ => zsw_new _ _ _) (fun q hq => zsw_lo _ hq) (by decide) (by decide) dX1_init_26 ?_
  refine z_dup C0 dX1_init_29 rfl ?_
  refine z_bipush C0 dX1_init_30 (v := 12) rfl ?_
  refine z_callI C0 (nc := 1) (o := a0 + 4) (As := [.int 12]) (rest := [.ref (zb g + (a0 + 4)), .ref (zb g + a0)]) rfl kc_X6_init.1 kc_X6_init.2.1 kc_X6_init.2.2 (by decide) ⟨by decide, by decide, by decide +kernel⟩ rfl km_RX1_17 (m_X6_init (a0 + 4) (zsw σ a0 [1, 0]) _ 12 (w := 36) hx4 hw4 (by decide) (by decide) (by decide)) rfl (Nat.le_of_ble_eq_true rfl) (by decide) (by decide) (by decide) (by omega) rfl dX1_init_32 ?_
  rw [zst_zsw σ [1, 0] (by omega)]
  refine z_putr C0 (σ1 := zsw σ a0 [2, 1, 0]) hk (by omega) kf_1_24 zpf_1_2 rfl (fun q => ⟨rfl, rfl⟩) zr_1_2 hz2.1 (zsw_put σ a0 [1, 0] 2 _) dX1_init_35 ?_
  refine z_aload_n C0 dX1_init_38 rfl 0 rfl ?_
  refine z_newo (σ' := zsw (zsw σ a0 [2, 1, 0]) (a0 + 6) []) C0 rfl zcl_6 hx6 kcl_RX1_15 kin_RX6 kii_RX6 zdv_6 (fun j _ _ => zsw_new _ _ _) (fun q hq => zsw_lo _ hq) (by decide) (by decide) dX1_init_39 ?_
  refine z_dup C0 dX1_init_42 rfl ?_
  refine z_bipush C0 dX1_init_43 (v := 6) rfl ?_
  refine z_callI C0 (nc := 1) (o := a0 + 6) (As := [.int 6]) (rest := [.ref (zb g + (a0 + 6)), .ref (zb g + a0)]) rfl kc_X6_init.1 kc_X6_init.2.1 kc_X6_init.2.2 (by decide) ⟨by decide, by decide, by decide +kernel⟩ rfl km_RX1_17 (m_X6_init (a0 + 6) (zsw σ a0 [2, 1, 0]) _ 6 (w := 18) hx6 hw6 (by decide) (by decide) (by decide)) rfl (Nat.le_of_ble_eq_true rfl) (by decide) (by decide) (by decide) (by omega) rfl dX1_init_45 ?_
  rw [zst_zsw σ [2, 1, 0] (by omega)]
  refine z_putr C0 (σ1 := zsw σ a0 [3, 2, 1, 0]) hk (by omega) kf_1_27 zpf_1_3 rfl (fun q => ⟨rfl, rfl⟩) zr_1_3 hz3.1 (zsw_put σ a0 [2, 1, 0] 3 _) dX1_init_48 ?_
  refine z_aload_n C0 dX1_init_51 rfl 0 rfl ?_
  refine z_newo (σ' := zsw (zsw σ a0 [3, 2, 1, 0]) (a0 + 8) []) C0 rfl zcl_6 hx8 kcl_RX1_15 kin_RX6 kii_RX6 zdv_6 (fun j _ _ => zsw_new _ _ _) (fun q hq => zsw_lo _ hq) (by decide) (by decide) dX1_init_52 ?_
  refine z_dup C0 dX1_init_55 rfl ?_
  refine z_iconst C0 dX1_init_56 (v := 5) rfl ?_
  refine z_callI C0 (nc := 1) (o := a0 + 8) (As := [.int 5]) (rest := [.ref (zb g + (a0 + 8)), .ref (zb g + a0)]) rfl kc_X6_init.1 kc_X6_init.2.1 kc_X6_init.2.2 (by decide) ⟨by decide, by decide, by decide +kernel⟩ rfl km_RX1_17 (m_X6_init (a0 + 8) (zsw σ a0 [3, 2, 1, 0]) _ 5 (w := 15) hx8 hw8 (by decide) (by decide) (by decide)) rfl (Nat.le_of_ble_eq_true rfl) (by decide) (by decide) (by decide) (by omega) rfl dX1_init_57 ?_
  rw [zst_zsw σ [3, 2, 1, 0] (by omega)]
  refine z_putr C0 (σ1 := zsw σ a0 [4, 3, 2, 1, 0]) hk (by omega) kf_1_30 zpf_1_4 rfl (fun q => ⟨rfl, rfl⟩) zr_1_4 hz4.1 (zsw_put σ a0 [3, 2, 1, 0] 4 _) dX1_init_60 ?_
  refine z_aload_n C0 dX1_init_63 rfl 0 rfl ?_
  refine z_newo (σ' := zsw (zsw σ a0 [4, 3, 2, 1, 0]) (a0 + 10) []) C0 rfl zcl_6 hx10 kcl_RX1_15 kin_RX6 kii_RX6 zdv_6 (fun j _ _ => zsw_new _ _ _) (fun q hq => zsw_lo _ hq) (by decide) (by decide) dX1_init_64 ?_
  refine z_dup C0 dX1_init_67 rfl ?_
  refine z_iconst C0 dX1_init_68 (v := 4) rfl ?_
  refine z_callI C0 (nc := 1) (o := a0 + 10) (As := [.int 4]) (rest := [.ref (zb g + (a0 + 10)), .ref (zb g + a0)]) rfl kc_X6_init.1 kc_X6_init.2.1 kc_X6_init.2.2 (by decide) ⟨by decide, by decide, by decide +kernel⟩ rfl km_RX1_17 (m_X6_init (a0 + 10) (zsw σ a0 [4, 3, 2, 1, 0]) _ 4 (w := 12) hx10 hw10 (by decide) (by decide) (by decide)) rfl (Nat.le_of_ble_eq_true rfl) (by decide) (by decide) (by decide) (by omega) rfl dX1_init_69 ?_
  rw [zst_zsw σ [4, 3, 2, 1, 0] (by omega)]
  refine z_putr C0 (σ1 := zsw σ a0 [5, 4, 3, 2, 1, 0]) hk (by omega) kf_1_33 zpf_1_5 rfl (fun q => ⟨rfl, rfl⟩) zr_1_5 hz5.1 (zsw_put σ a0 [4, 3, 2, 1, 0] 5 _) dX1_init_72 ?_
  refine z_aload_n C0 dX1_init_75 rfl 0 rfl ?_
  refine z_bipush C0 dX1_init_76 (v := 32) rfl ?_
  refine z_newA C0 (len := 32) (t0 := 0) (kind := 20) (ty := .int) rfl rfl rfl hz9.2.2.1 (by decide) hz9.2.2.2 kar_int (Or.inl rfl) (by decide) (by decide) (by decide) (by decide) (by decide) dX1_init_78 ?_
  refine z_putr C0 (σ1 := zsw σ a0 [9, 5, 4, 3, 2, 1, 0]) hk (by omega) kf_1_36 zpf_1_9 rfl (fun q => ⟨rfl, rfl⟩) zr_1_9 hz9.1 (zsw_put σ a0 [5, 4, 3, 2, 1, 0] 9 _) dX1_init_80 ?_
  refine z_aload_n C0 dX1_init_83 rfl 0 rfl ?_
  refine z_iconst C0 dX1_init_84 (v := 2) rfl ?_
  refine z_newA C0 (len := 2) (t0 := 0) (kind := 20) (ty := .int) rfl rfl rfl hz10.2.2.1 (by decide) hz10.2.2.2 kar_int (Or.inl rfl) (by decide) (by decide) (by decide) (by decide) (by decide) dX1_init_85 ?_
  refine z_putr C0 (σ1 := zsw σ a0 [10, 9, 5, 4, 3, 2, 1, 0]) hk (by omega) kf_1_39 zpf_1_10 rfl (fun q => ⟨rfl, rfl⟩) zr_1_10 hz10.1 (zsw_put σ a0 [9, 5, 4, 3, 2, 1, 0] 10 _) dX1_init_87 ?_
  refine z_aload_n C0 dX1_init_90 rfl 0 rfl ?_
  refine z_bipush C0 dX1_init_91 (v := 12) rfl ?_
  refine z_newA C0 (len := 12) (t0 := 0) (kind := 20) (ty := .int) rfl rfl rfl hz11.2.2.1 (by decide) hz11.2.2.2 kar_int (Or.inl rfl) (by decide) (by decide) (by decide) (by decide) (by decide) dX1_init_93 ?_
  refine z_putr C0 (σ1 := zsw σ a0 [11, 10, 9, 5, 4, 3, 2, 1, 0]) hk (by omega) kf_1_42 zpf_1_11 rfl (fun q => ⟨rfl, rfl⟩) zr_1_11 hz11.1 (zsw_put σ a0 [10, 9, 5, 4, 3, 2, 1, 0] 11 _) dX1_init_95 ?_
  refine z_aload_n C0 dX1_init_98 rfl 0 rfl ?_
  refine z_sig (zsw_end (ks := [11, 10, 9, 5, 4, 3, 2, 1, 0]) hk (by decide) (by decide +kernel)) ?_
  have hT1 : zT (a0 + 15) (zst σ a0) a0 1 := ⟨hk, by show a0 + 15 ≤ _; omega, by omega, fun o k h1 h2 => by
      unfold zst
      rw [if_pos h1]⟩
  obtain ⟨μ1, e1, h⟩ := zbd_of h
  refine z_callV (As := []) (rest := []) C0 rfl kc_X1_forget km_RX1_45 (r_X1_forget (l := l) (g := g) (κ := κ) a0 _ hT1 hSp e1) hk (by omega) rfl (by decide) rfl (Nat.le_of_ble_eq_true rfl) (Nat.le_of_ble_eq_true rfl) (Nat.le_of_ble_eq_true rfl) (Nat.le_of_ble_eq_true rfl) (Nat.le_refl _) rfl rfl dX1_init_99 ?_
  refine z_aload_n C0 dX1_init_102 rfl 0 rfl ?_
  obtain ⟨μ2, e2, h⟩ := zbd_of h
  refine z_callV (As := []) (rest := []) C0 rfl kc_X1_settle km_RX1_48 (r_X1_settle (l := l) (g := g) a0 _ hT1 e2) hk (by omega) rfl (by decide) rfl (Nat.le_of_ble_eq_true rfl) (Nat.le_of_ble_eq_true rfl) (Nat.le_of_ble_eq_true rfl) (Nat.le_of_ble_eq_true rfl) (Nat.le_refl _) rfl rfl dX1_init_103 ?_
  obtain rfl := Option.some.inj h
  exact z_vret C0 rfl dX1_init_106
