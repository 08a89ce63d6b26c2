/-! THE CONSTRUCTORS WITH NESTED OBJECTS AND ROWS OF OBJECTS (by program: tools/mkctor2.py) -/
/-- what is written while the object at a is under construction: its fields ks; two rows b, c of it as far as J, L say -/
def zsq (σ : Nat → Nat → Bool) (a : Nat) (ks : List Nat) (b : Nat) (J : Nat → Bool) (c : Nat) (L : Nat → Bool) : Nat → Nat → Bool := fun o k => if o = a then ks.contains k else if o = b then J k else if o = c then L k else if a < o then true else σ o k
def zAO (g : zL) : Prop := ∀ U : State, g.2.2.2.2 U.vm → va_AO RX1 U ∧ va_AO RX6 U ∧ va_AO RX8 U ∧ (Cond.arrayOver (.array .int)).before #[] U = true
theorem zval_ref {B : Nat} {s : Nat → Bool} {r : Nat → Int32} {ci o k b : Nat} (hr : zrk ci k = 1) (hs : s k = true) (hb : zFX o k = b) : zval B s r ci o k = .ref (B + b) := by
  simp [zval, hr, hs, hb]
theorem zsq_put (σ : Nat → Nat → Bool) (a : Nat) (ks : List Nat) (k b : Nat) (J : Nat → Bool) (c : Nat) (L : Nat → Bool) (N : Nat) : ∀ q, q < N → ∀ j, zsq σ a (k :: ks) b J c L q j = zsu (zsq σ a ks b J c L) a k q j := by
  intro q _ j
  unfold zsq zsu
  by_cases h : q = a
  · subst h
    by_cases h2 : j = k
    · subst h2
      simp
    · simp [h2]
  · simp [h]
theorem zst_zsq (σ : Nat → Nat → Bool) {a b c N : Nat} (ks : List Nat) (J L : Nat → Bool) (h : a < N) (hb : b < N) (hc : c < N) : zst (zsq σ a ks b J c L) N = zsq σ a ks b J c L := by
  funext o k
  unfold zst zsq
  by_cases h1 : N ≤ o
  · rw [if_pos h1, if_neg (by omega), if_neg (by omega), if_neg (by omega), if_pos (by omega)]
  · rw [if_neg h1]
theorem zsq_new1 {σ : Nat → Nat → Bool} {a N c : Nat} {ks : List Nat} {L : Nat → Bool} {j : Nat} (h : a < N) : zsq σ a ks N (fun k => decide (k < 0)) c L N j = false := by
  unfold zsq
  rw [if_neg (by omega), if_pos rfl]
  rfl
theorem zsq_old1 {σ : Nat → Nat → Bool} {a N q : Nat} {ks : List Nat} (h : q < N) : zsq σ a ks N (fun k => decide (k < 0)) a (fun _ => true) q = zsw σ a ks q := by
  funext j
  unfold zsq zsw
  by_cases h1 : q = a
  · rw [if_pos h1, if_pos h1]
  · rw [if_neg h1, if_neg h1, if_neg (by omega), if_neg h1]
theorem zsq_new2 {σ : Nat → Nat → Bool} {a N b : Nat} {ks : List Nat} {J : Nat → Bool} {j : Nat} (h : a < N ∧ b < N) : zsq σ a ks b J N (fun k => decide (k < 0)) N j = false := by
  unfold zsq
  rw [if_neg (by omega), if_neg (by omega), if_pos rfl]
  rfl
theorem zsq_old2 {σ : Nat → Nat → Bool} {a b N q : Nat} {ks : List Nat} {J : Nat → Bool} (h : q < N) : zsq σ a ks b J N (fun k => decide (k < 0)) q = zsq σ a ks b J a (fun _ => true) q := by
  funext j
  unfold zsq
  by_cases h1 : q = a
  · rw [if_pos h1, if_pos h1]
  · rw [if_neg h1, if_neg h1, if_neg (show ¬ q = N by omega), if_neg h1]
theorem zsq_sto1 {σ : Nat → Nat → Bool} {a b c N i : Nat} {ks : List Nat} {L : Nat → Bool} (h : a < b) : ∀ q, q < N → ∀ j, zsq σ a ks b (fun k => decide (k < i + 1)) c L q j = zsu (zsq σ a ks b (fun k => decide (k < i)) c L) b i q j := by
  intro q _ j
  unfold zsu zsq
  by_cases h1 : q = b
  · subst h1
    rw [if_neg (by omega), if_pos rfl]
    by_cases h2 : j = i
    · subst h2
      simp
    · rw [if_neg (by omega), if_neg (by omega), if_pos rfl]
      exact decide_eq_decide.mpr (by omega)
  · rw [if_neg (show ¬ (q = b ∧ j = i) from fun w => h1 w.1)]
    simp only [if_neg h1]
theorem zsq_sto2 {σ : Nat → Nat → Bool} {a b c N i : Nat} {ks : List Nat} {J : Nat → Bool} (h : a < c ∧ b < c) : ∀ q, q < N → ∀ j, zsq σ a ks b J c (fun k => decide (k < i + 1)) q j = zsu (zsq σ a ks b J c (fun k => decide (k < i))) c i q j := by
  intro q _ j
  unfold zsu zsq
  by_cases h1 : q = c
  · subst h1
    rw [if_neg (by omega), if_neg (by omega), if_pos rfl]
    by_cases h2 : j = i
    · subst h2
      simp
    · rw [if_neg (by omega), if_neg (by omega), if_neg (by omega), if_pos rfl]
      exact decide_eq_decide.mpr (by omega)
  · rw [if_neg (show ¬ (q = c ∧ j = i) from fun w => h1 w.1)]
    simp only [if_neg h1]
theorem zsq_end {σ : Nat → Nat → Bool} {a ci N b c : Nat} {ks : List Nat} {J L : Nat → Bool} (hk : zkd a = ci) (hc : ci < 20) (h : (List.range (znf ci)).all (fun i => decide (zrk ci i ≠ 1) || ks.contains i) = true) (hab : a < b ∧ (a < c ∨ c = a)) (hkb : 22 ≤ zkd b) (hkc : 22 ≤ zkd c ∨ c = a) (hJ : ∀ k, k < zln b → J k = true) (hL : ∀ k, k < zln c → L k = true) :
    ∀ o, o < N → ∀ i, (zkd o < 20 → i < znf (zkd o) → zrk (zkd o) i = 1 → zst σ a o i = zsq σ a ks b J c L o i) ∧ (22 ≤ zkd o → i < zln o → zst σ a o i = zsq σ a ks b J c L o i) := by
  intro o _ i
  by_cases ho : o = a
  · subst ho
    refine ⟨fun _ h2 h3 => ?_, fun h2 _ => by omega⟩
    rw [hk] at h2 h3
    have h4 := List.all_eq_true.mp h i (List.mem_range.mpr h2)
    simp only [Bool.or_eq_true, decide_eq_true_eq] at h4
    rcases h4 with h4 | h4
    · exact absurd h3 h4
    · unfold zst zsq
      rw [if_pos (Nat.le_refl _), if_pos rfl, h4]
  · by_cases h1 : o = b
    · subst h1
      refine ⟨fun w => by omega, fun _ w => ?_⟩
      unfold zst zsq
      rw [if_neg ho, if_pos rfl, hJ i w, if_pos (by omega)]
    · by_cases h2 : o = c
      · subst h2
        refine ⟨fun w => by omega, fun _ w => ?_⟩
        unfold zst zsq
        rw [if_neg ho, if_neg h1, if_pos rfl, hL i w, if_pos (by omega)]
      · have : zst σ a o i = zsq σ a ks b J c L o i := by
          unfold zst zsq
          rw [if_neg ho, if_neg h1, if_neg h2]
          by_cases h3 : a ≤ o
          · rw [if_pos h3, if_pos (by omega)]
          · rw [if_neg h3, if_neg (by omega)]
        exact ⟨fun _ _ _ => this, fun _ _ => this⟩
section ZMAKE2
variable {p : Program} {l : Launch} {e : Env} {R : Room} {s : State} {m : MethodId} {args : Array Value} {below : List Frame} {meth : Method} {c : Code} {g : zL} {Q : State → Prop} {nL N k n : Nat} {σ : Nat → Nat → Bool} {μ : zM} {cc : ByteArray} {y : MethodName} {ret : Option FieldType} {pc : Nat} {lo : List (Nat × Value)} {st : List Value}
theorem z_sigA {σ' : Nat → Nat → Bool} (h : ∀ o, o < N → ∀ i, (zkd o < 20 → i < znf (zkd o) → zrk (zkd o) i = 1 → σ' o i = σ o i) ∧ (22 ≤ zkd o → i < zln o → σ' o i = σ o i)) (kk : Z p l e R s m args below meth c g Q nL N k n σ' μ pc lo st) : Z p l e R s m args below meth c g Q nL N k n σ μ pc lo st := by
  intro H locs ls hR hS hl
  refine kk H locs ls ⟨fun k q hk => ?_, hR.2⟩ hS hl
  have h1 := zW_at hk
  rw [zW_get h1.1] at hk
  cases hk
  have h2 := hR.1 k _ (zW_get h1.1)
  have h3 : zent g σ μ k = zenr g (σ k) (μ k) k := rfl
  rw [h3] at h2
  show va_at g.1 zcls (zb g + k, zenr g (σ' k) (μ k) k) H
  unfold zenr at h2 ⊢
  by_cases h4 : zkd k < 20
  · rw [if_pos h4] at h2 ⊢
    have h5 : (List.range (znf (zkd k))).map (zval (zb g) (σ' k) (μ k) (zkd k) k) = (List.range (znf (zkd k))).map (zval (zb g) (σ k) (μ k) (zkd k) k) := by
      refine List.map_congr_left fun i hi => ?_
      have hi := List.mem_range.mp hi
      unfold zval
      by_cases h6 : zrk (zkd k) i = 1
      · rw [(h k h1.1 i).1 h4 hi h6]
      · simp [h6]
    rw [h5]
    exact h2
  · rw [if_neg h4] at h2 ⊢
    by_cases h5 : zkd k < 22
    · rw [if_pos h5] at h2 ⊢
      exact h2
    · rw [if_neg h5] at h2 ⊢
      have h2 : H[zb g + k]? = some (vp_cell _ _) := h2
      show H[zb g + k]? = some (vp_cell _ _)
      rw [h2, vp_cell_q, vp_cell_q]
      refine congrArg some (arrV_same fun j hj => ?_)
      rw [(h k h1.1 j).2 (by omega) hj]
theorem z_callINw (C0 : zC p s m args meth c g cc y nL ret) {host : String} {yc : MethodName} {bc : ByteArray} {nLc nc idx d' mc ms N' o d RC RS : Nat} {σ' : Nat → Nat → Bool} {μ' : zM} {As rest st1 : List Value} (hRR : R = zrm d RC RS)
    (hin : Cond.instanceMethod yc ∈ ztbl) (w3 : Cond.code yc bc nLc none ∈ ztbl) (w4 : Cond.initialized yc.cls ∈ ztbl) (w5 : nLc ≤ 45) (w7 : yc.cls ≠ "java/lang/invoke/MethodHandle" ∧ yc.cls ≠ "java/lang/invoke/VarHandle" ∧ (parseMethodDescriptor yc.desc).map (fun d => d.parameters.length) = some nc) (hnm : yc.name = "<init>") (hnest : va_Nw (.methodLinkNest y.cls idx yc host) s)
    (hM : zMet l g yc bc nLc none d' mc ms N N' σ σ' (.ref (zb g + o) :: As) μ none μ') (hn : As.length = nc)
    (hst : (rest.map fun v => v.category).sum ≤ 8) (hr : d' + 1 ≤ d) (hcc : k + mc ≤ RC) (hss : n + ms ≤ RS) (hNN : N ≤ N') (h1 : st1 = As.reverse ++ .ref (zb g + o) :: rest) (hd : decode cc pc = .ok (.invokespecial idx, 3))
    (kk : Z p l e R s m args below meth c g Q nL N' (k + mc) (n + ms) σ' μ' (pc + 3) lo rest) : Z p l e R s m args below meth c g Q nL N k n σ μ pc lo st1 := by
  subst hRR; subst h1
  refine z_back (a := (Value.ref (zb g + o) :: As).toArray) (rv := none) C0 (d := d) (RC := RC) (RS := RS) hNN rfl (fun H locs ls hR hS hl => ?_) kk
  have hts := C0.1.2.2.2.2
  exact va_runIN (As := As) (rest := rest) C0.1 hM ⟨va_cnB nc hts (good_ws (ws := .code yc bc nLc none :: ztbl) (fun w hw => by
      rcases List.mem_cons.mp hw with h | h
      · rw [h]; exact w3
      · exact h)) rfl rfl rfl hnest (hts _ w4) w7 (zroom hr w5), hnm, hts _ hin⟩ ⟨zIn_blind, fun U hU hW => ⟨rfl, zIn_at C0 hR U hU hW⟩⟩ rfl hn hl.1 rfl (lv_room hst) hd ⟨hcc, hss⟩
end ZMAKE2

def i_X3 (a0 : Nat) (μ : zM) : zM := (zupr μ (a0 + 1) (fun _ => 0))
def i_X9 (a0 : Nat) (μ : zM) : zM := (zupr (zupr (zupr (zupr μ (a0 + 1) (fun _ => 0)) (a0 + 2) (fun _ => 0)) (a0 + 3) (fun _ => 0)) (a0 + 4) (fun _ => 0))
def i_X2 (a0 : Nat) (μ : zM) : zM := (fun q => if a0 + 3 ≤ q then (fun _ => 0) else (zupr (zupr μ (a0 + 1) (fun _ => 0)) (a0 + 2) (fun _ => 0)) q)
def i_X7 (a0 : Nat) (μ : zM) : zM := (fun q => if a0 + 11 ≤ q then (fun _ => 0) else (fun q => if a0 + 1 ≤ q then (fun _ => 0) else μ q) q)
def i_X4 (a0 : Nat) (b0 : Nat) (μ : zM) : zM := (zup (zup (zupr (zupr μ (a0 + 1) (fun _ => 0)) (a0 + 2) (fun _ => 0)) a0 0 (nI b0)) a0 1 (nI b0))
def i_X0 (a0 : Nat) (b0 : Nat) (μ : zM) : zM := (zup (zup (zupr (zupr (znew (zupr (zupr (zupr (zupr (zupr (zupr (zupr μ (a0 + 1) (fun _ => 0)) (a0 + 2) (fun _ => 0)) (a0 + 3) (fun _ => 0)) (a0 + 4) (fun _ => 0)) (a0 + 5) (fun _ => 0)) (a0 + 6) (fun _ => 0)) (a0 + 7) (fun _ => 0)) (a0 + 8) 4) (a0 + 8 + 1) (fun _ => 0)) (a0 + 8 + 2) (fun _ => 0)) (a0 + 8) 0 (nI b0)) (a0 + 8) 1 (nI b0))
def i_X6 (a0 : Nat) (v : Int32) (μ : zM) : zM := zupr (zup (znew μ a0 6) a0 0 (zmax 0 v)) (a0 + 1) (fun _ => 0)
theorem zfx_1 : ∀ a, a < zNN → zkd a = 1 → zkd (a + 2) = 6 ∧ zln (a + 2 + 1) = 60 ∧ zkd (a + 4) = 6 ∧ zln (a + 4 + 1) = 36 ∧ zkd (a + 6) = 6 ∧ zln (a + 6 + 1) = 18 ∧ zkd (a + 8) = 6 ∧ zln (a + 8 + 1) = 15 ∧ zkd (a + 10) = 6 ∧ zln (a + 10 + 1) = 12 := by decide +kernel
def f_X1_init (a0 : Nat) (μ : zM) : Option zM :=
  zbd (f_X1_forget a0 (zupr (zupr (zupr (i_X6 (a0 + 10) 4 (i_X6 (a0 + 8) 5 (i_X6 (a0 + 6) 6 (i_X6 (a0 + 4) 12 (i_X6 (a0 + 2) 20 (zupr μ (a0 + 1) (fun _ => 0))))))) (a0 + 12) (fun _ => 0)) (a0 + 13) (fun _ => 0)) (a0 + 14) (fun _ => 0))) fun μ1 =>
  zbd (f_X1_settle a0 μ1) fun μ2 =>
  some μ2
set_option maxHeartbeats 4000000 in
set_option maxRecDepth 100000 in
theorem m_X1_init {l : Launch} {g : zL} {κ : zK} (a0 : Nat) (σ : Nat → Nat → Bool) (μ : zM) (hSp : zSK g κ) (hk : zkd a0 = 1) {μr : zM} (h : f_X1_init a0 μ = some μr) : zMet l g yX1_init cX1_init 1 none 2 14 213 (a0 + 1) (a0 + 15) (zsw σ a0 []) (zst σ a0) [.ref (zb g + a0)] μ none μr := by
  have ha0 : a0 < 324 := zkd_lt (by omega)
  unfold f_X1_init at h
  obtain ⟨⟨hx2, hw2⟩, ⟨hx4, hw4⟩, ⟨hx6, hw6⟩, ⟨hx8, hw8⟩, hx10, hw10⟩ := zfx_1 a0 ha0 hk
  have hz0 := zs_1_0 (zT_of hk (by decide))
  have hz1 := zs_1_1 (zT_of hk (by decide))
  have hz2 := zs_1_2 (zT_of hk (by decide))
  have hz3 := zs_1_3 (zT_of hk (by decide))
  have hz4 := zs_1_4 (zT_of hk (by decide))
  have hz5 := zs_1_5 (zT_of hk (by decide))
  have hz9 := zs_1_9 (zT_of hk (by decide))
  have hz10 := zs_1_10 (zT_of hk (by decide))
  have hz11 := zs_1_11 (zT_of hk (by decide))
  refine zMet.of (by decide +kernel) (Nat.le_of_ble_eq_true rfl) ?_
  intro p e s m args below meth c C0
  refine z_loc (lo1 := [(0, .ref (zb g + a0))]) rfl ?_
  refine z_aload_n C0 dX1_init_0 rfl 0 rfl ?_
  refine z_oini C0 rfl (by decide) kO_RX1_3 kO_i kO_b kO_c dX1_init_1 ?_
  refine z_aload_n C0 dX1_init_4 rfl 0 rfl ?_
  refine z_bipush C0 dX1_init_5 (v := 11) rfl ?_
  refine z_newA C0 (len := 11) (t0 := 0) (kind := 20) (ty := .int) rfl rfl rfl hz0.2.2.1 (by decide) hz0.2.2.2 kar_int (Or.inl rfl) (by decide) (by decide) (by decide) (by decide) (by decide) dX1_init_7 ?_
  refine z_putr C0 (σ1 := zsw σ a0 [0]) hk (by omega) kf_1_11 zpf_1_0 rfl (fun q => ⟨rfl, rfl⟩) zr_1_0 hz0.1 (zsw_put σ a0 [] 0 _) dX1_init_9 ?_
  refine z_aload_n C0 dX1_init_12 rfl 0 rfl ?_
  refine z_newo (σ' := zsw (zsw σ a0 [0]) (a0 + 2) []) C0 rfl zcl_6 hx2 kcl_RX1_15 kin_RX6 kii_RX6 zdv_6 (fun j _ _ => zsw_new _ _ _) (fun q hq => zsw_lo _ hq) (by decide) (by decide) dX1_init_13 ?_
  refine z_dup C0 dX1_init_16 rfl ?_
  refine z_bipush C0 dX1_init_17 (v := 20) rfl ?_
  refine z_callI C0 (nc := 1) (o := a0 + 2) (As := [.int 20]) (rest := [.ref (zb g + (a0 + 2)), .ref (zb g + a0)]) rfl kc_X6_init.1 kc_X6_init.2.1 kc_X6_init.2.2 (by decide) ⟨by decide, by decide, by decide +kernel⟩ rfl km_RX1_17 (m_X6_init (a0 + 2) (zsw σ a0 [0]) _ 20 (w := 60) hx2 hw2 (by decide) (by decide) (by decide)) rfl (Nat.le_of_ble_eq_true rfl) (by decide) (by decide) (by decide) (by omega) rfl dX1_init_19 ?_
  rw [zst_zsw σ [0] (by omega)]
  refine z_putr C0 (σ1 := zsw σ a0 [1, 0]) hk (by omega) kf_1_20 zpf_1_1 rfl (fun q => ⟨rfl, rfl⟩) zr_1_1 hz1.1 (zsw_put σ a0 [0] 1 _) dX1_init_22 ?_
  refine z_aload_n C0 dX1_init_25 rfl 0 rfl ?_
  refine z_newo (σ' := zsw (zsw σ a0 [1, 0]) (a0 + 4) []) C0 rfl zcl_6 hx4 kcl_RX1_15 kin_RX6 kii_RX6 zdv_6 (fun j _ _ => zsw_new _ _ _) (fun q hq => zsw_lo _ hq) (by decide) (by decide) dX1_init_26 ?_
  refine z_dup C0 dX1_init_29 rfl ?_
  refine z_bipush C0 dX1_init_30 (v := 12) rfl ?_
  refine z_callI C0 (nc := 1) (o := a0 + 4) (As := [.int 12]) (rest := [.ref (zb g + (a0 + 4)), .ref (zb g + a0)]) rfl kc_X6_init.1 kc_X6_init.2.1 kc_X6_init.2.2 (by decide) ⟨by decide, by decide, by decide +kernel⟩ rfl km_RX1_17 (m_X6_init (a0 + 4) (zsw σ a0 [1, 0]) _ 12 (w := 36) hx4 hw4 (by decide) (by decide) (by decide)) rfl (Nat.le_of_ble_eq_true rfl) (by decide) (by decide) (by decide) (by omega) rfl dX1_init_32 ?_
  rw [zst_zsw σ [1, 0] (by omega)]
  refine z_putr C0 (σ1 := zsw σ a0 [2, 1, 0]) hk (by omega) kf_1_24 zpf_1_2 rfl (fun q => ⟨rfl, rfl⟩) zr_1_2 hz2.1 (zsw_put σ a0 [1, 0] 2 _) dX1_init_35 ?_
  refine z_aload_n C0 dX1_init_38 rfl 0 rfl ?_
  refine z_newo (σ' := zsw (zsw σ a0 [2, 1, 0]) (a0 + 6) []) C0 rfl zcl_6 hx6 kcl_RX1_15 kin_RX6 kii_RX6 zdv_6 (fun j _ _ => zsw_new _ _ _) (fun q hq => zsw_lo _ hq) (by decide) (by decide) dX1_init_39 ?_
  refine z_dup C0 dX1_init_42 rfl ?_
  refine z_bipush C0 dX1_init_43 (v := 6) rfl ?_
  refine z_callI C0 (nc := 1) (o := a0 + 6) (As := [.int 6]) (rest := [.ref (zb g + (a0 + 6)), .ref (zb g + a0)]) rfl kc_X6_init.1 kc_X6_init.2.1 kc_X6_init.2.2 (by decide) ⟨by decide, by decide, by decide +kernel⟩ rfl km_RX1_17 (m_X6_init (a0 + 6) (zsw σ a0 [2, 1, 0]) _ 6 (w := 18) hx6 hw6 (by decide) (by decide) (by decide)) rfl (Nat.le_of_ble_eq_true rfl) (by decide) (by decide) (by decide) (by omega) rfl dX1_init_45 ?_
  rw [zst_zsw σ [2, 1, 0] (by omega)]
  refine z_putr C0 (σ1 := zsw σ a0 [3, 2, 1, 0]) hk (by omega) kf_1_27 zpf_1_3 rfl (fun q => ⟨rfl, rfl⟩) zr_1_3 hz3.1 (zsw_put σ a0 [2, 1, 0] 3 _) dX1_init_48 ?_
  refine z_aload_n C0 dX1_init_51 rfl 0 rfl ?_
  refine z_newo (σ' := zsw (zsw σ a0 [3, 2, 1, 0]) (a0 + 8) []) C0 rfl zcl_6 hx8 kcl_RX1_15 kin_RX6 kii_RX6 zdv_6 (fun j _ _ => zsw_new _ _ _) (fun q hq => zsw_lo _ hq) (by decide) (by decide) dX1_init_52 ?_
  refine z_dup C0 dX1_init_55 rfl ?_
  refine z_iconst C0 dX1_init_56 (v := 5) rfl ?_
  refine z_callI C0 (nc := 1) (o := a0 + 8) (As := [.int 5]) (rest := [.ref (zb g + (a0 + 8)), .ref (zb g + a0)]) rfl kc_X6_init.1 kc_X6_init.2.1 kc_X6_init.2.2 (by decide) ⟨by decide, by decide, by decide +kernel⟩ rfl km_RX1_17 (m_X6_init (a0 + 8) (zsw σ a0 [3, 2, 1, 0]) _ 5 (w := 15) hx8 hw8 (by decide) (by decide) (by decide)) rfl (Nat.le_of_ble_eq_true rfl) (by decide) (by decide) (by decide) (by omega) rfl dX1_init_57 ?_
  rw [zst_zsw σ [3, 2, 1, 0] (by omega)]
  refine z_putr C0 (σ1 := zsw σ a0 [4, 3, 2, 1, 0]) hk (by omega) kf_1_30 zpf_1_4 rfl (fun q => ⟨rfl, rfl⟩) zr_1_4 hz4.1 (zsw_put σ a0 [3, 2, 1, 0] 4 _) dX1_init_60 ?_
  refine z_aload_n C0 dX1_init_63 rfl 0 rfl ?_
  refine z_newo (σ' := zsw (zsw σ a0 [4, 3, 2, 1, 0]) (a0 + 10) []) C0 rfl zcl_6 hx10 kcl_RX1_15 kin_RX6 kii_RX6 zdv_6 (fun j _ _ => zsw_new _ _ _) (fun q hq => zsw_lo _ hq) (by decide) (by decide) dX1_init_64 ?_
  refine z_dup C0 dX1_init_67 rfl ?_
  refine z_iconst C0 dX1_init_68 (v := 4) rfl ?_
  refine z_callI C0 (nc := 1) (o := a0 + 10) (As := [.int 4]) (rest := [.ref (zb g + (a0 + 10)), .ref (zb g + a0)]) rfl kc_X6_init.1 kc_X6_init.2.1 kc_X6_init.2.2 (by decide) ⟨by decide, by decide, by decide +kernel⟩ rfl km_RX1_17 (m_X6_init (a0 + 10) (zsw σ a0 [4, 3, 2, 1, 0]) _ 4 (w := 12) hx10 hw10 (by decide) (by decide) (by decide)) rfl (Nat.le_of_ble_eq_true rfl) (by decide) (by decide) (by decide) (by omega) rfl dX1_init_69 ?_
  rw [zst_zsw σ [4, 3, 2, 1, 0] (by omega)]
  refine z_putr C0 (σ1 := zsw σ a0 [5, 4, 3, 2, 1, 0]) hk (by omega) kf_1_33 zpf_1_5 rfl (fun q => ⟨rfl, rfl⟩) zr_1_5 hz5.1 (zsw_put σ a0 [4, 3, 2, 1, 0] 5 _) dX1_init_72 ?_
  refine z_aload_n C0 dX1_init_75 rfl 0 rfl ?_
  refine z_bipush C0 dX1_init_76 (v := 32) rfl ?_
  refine z_newA C0 (len := 32) (t0 := 0) (kind := 20) (ty := .int) rfl rfl rfl hz9.2.2.1 (by decide) hz9.2.2.2 kar_int (Or.inl rfl) (by decide) (by decide) (by decide) (by decide) (by decide) dX1_init_78 ?_
  refine z_putr C0 (σ1 := zsw σ a0 [9, 5, 4, 3, 2, 1, 0]) hk (by omega) kf_1_36 zpf_1_9 rfl (fun q => ⟨rfl, rfl⟩) zr_1_9 hz9.1 (zsw_put σ a0 [5, 4, 3, 2, 1, 0] 9 _) dX1_init_80 ?_
  refine z_aload_n C0 dX1_init_83 rfl 0 rfl ?_
  refine z_iconst C0 dX1_init_84 (v := 2) rfl ?_
  refine z_newA C0 (len := 2) (t0 := 0) (kind := 20) (ty := .int) rfl rfl rfl hz10.2.2.1 (by decide) hz10.2.2.2 kar_int (Or.inl rfl) (by decide) (by decide) (by decide) (by decide) (by decide) dX1_init_85 ?_
  refine z_putr C0 (σ1 := zsw σ a0 [10, 9, 5, 4, 3, 2, 1, 0]) hk (by omega) kf_1_39 zpf_1_10 rfl (fun q => ⟨rfl, rfl⟩) zr_1_10 hz10.1 (zsw_put σ a0 [9, 5, 4, 3, 2, 1, 0] 10 _) dX1_init_87 ?_
  refine z_aload_n C0 dX1_init_90 rfl 0 rfl ?_
  refine z_bipush C0 dX1_init_91 (v := 12) rfl ?_
  refine z_newA C0 (len := 12) (t0 := 0) (kind := 20) (ty := .int) rfl rfl rfl hz11.2.2.1 (by decide) hz11.2.2.2 kar_int (Or.inl rfl) (by decide) (by decide) (by decide) (by decide) (by decide) dX1_init_93 ?_
  refine z_putr C0 (σ1 := zsw σ a0 [11, 10, 9, 5, 4, 3, 2, 1, 0]) hk (by omega) kf_1_42 zpf_1_11 rfl (fun q => ⟨rfl, rfl⟩) zr_1_11 hz11.1 (zsw_put σ a0 [10, 9, 5, 4, 3, 2, 1, 0] 11 _) dX1_init_95 ?_
  refine z_aload_n C0 dX1_init_98 rfl 0 rfl ?_
  refine z_sig (zsw_end (ks := [11, 10, 9, 5, 4, 3, 2, 1, 0]) hk (by decide) (by decide +kernel)) ?_
  have hT1 : zT (a0 + 15) (zst σ a0) a0 1 := ⟨hk, by show a0 + 15 ≤ _; omega, by omega, fun o k h1 h2 => by
      unfold zst
      rw [if_pos h1]⟩
  obtain ⟨μ1, e1, h⟩ := zbd_of h
  refine z_callV (As := []) (rest := []) C0 rfl kc_X1_forget km_RX1_45 (r_X1_forget (l := l) (g := g) (κ := κ) a0 _ hT1 hSp e1) hk (by omega) rfl (by decide) rfl (Nat.le_of_ble_eq_true rfl) (Nat.le_of_ble_eq_true rfl) (Nat.le_of_ble_eq_true rfl) (Nat.le_of_ble_eq_true rfl) (Nat.le_refl _) rfl rfl dX1_init_99 ?_
  refine z_aload_n C0 dX1_init_102 rfl 0 rfl ?_
  obtain ⟨μ2, e2, h⟩ := zbd_of h
  refine z_callV (As := []) (rest := []) C0 rfl kc_X1_settle km_RX1_48 (r_X1_settle (l := l) (g := g) a0 _ hT1 e2) hk (by omega) rfl (by decide) rfl (Nat.le_of_ble_eq_true rfl) (Nat.le_of_ble_eq_true rfl) (Nat.le_of_ble_eq_true rfl) (Nat.le_of_ble_eq_true rfl) (Nat.le_refl _) rfl rfl dX1_init_103 ?_
  obtain rfl := Option.some.inj h
  exact z_vret C0 rfl dX1_init_106
theorem zfx_8 : ∀ a, a < zNN → zkd a = 8 → zkd (a + 5) = 1 ∧ zFX (a + 3) 0 = a + 5 ∧ zkd (a + 20) = 1 ∧ zFX (a + 3) 1 = a + 20 ∧ zkd (a + 35) = 6 ∧ zln (a + 35 + 1) = 0 ∧ zFX (a + 4) 0 = a + 35 ∧ zkd (a + 37) = 6 ∧ zln (a + 37 + 1) = 0 ∧ zFX (a + 4) 1 = a + 37 ∧ zkd (a + 39) = 6 ∧ zln (a + 39 + 1) = 120 ∧ zFX (a + 4) 2 = a + 39 ∧ zkd (a + 41) = 6 ∧ zln (a + 41 + 1) = 120 ∧ zFX (a + 4) 3 = a + 41 ∧ zkd (a + 43) = 6 ∧ zln (a + 43 + 1) = 24 ∧ zFX (a + 4) 4 = a + 43 ∧ zkd (a + 45) = 6 ∧ zln (a + 45 + 1) = 24 ∧ zFX (a + 4) 5 = a + 45 ∧ zkd (a + 47) = 6 ∧ zln (a + 47 + 1) = 24 ∧ zFX (a + 4) 6 = a + 47 ∧ zkd (a + 49) = 6 ∧ zln (a + 49 + 1) = 24 ∧ zFX (a + 4) 7 = a + 49 ∧ zkd (a + 51) = 6 ∧ zln (a + 51 + 1) = 24 ∧ zFX (a + 4) 8 = a + 51 ∧ zkd (a + 53) = 6 ∧ zln (a + 53 + 1) = 24 ∧ zFX (a + 4) 9 = a + 53 := by decide +kernel
def f_X8_init (a0 : Nat) (μ : zM) : Option zM :=
  zbd (f_X1_init (a0 + 5) (znew (zupr (zup (zupr μ (a0 + 1) (fun _ => 0)) a0 3 (-1)) (a0 + 2) (fun _ => 0)) (a0 + 5) 1)) fun μ1 =>
  zbd (f_X1_init (a0 + 20) (znew μ1 (a0 + 20) 1)) fun μ2 =>
  some (i_X6 (a0 + 53) 8 (i_X6 (a0 + 51) 8 (i_X6 (a0 + 49) 8 (i_X6 (a0 + 47) 8 (i_X6 (a0 + 45) 8 (i_X6 (a0 + 43) 8 (i_X6 (a0 + 41) 40 (i_X6 (a0 + 39) 40 (i_X6 (a0 + 37) 0 (i_X6 (a0 + 35) 0 μ2))))))))))
set_option maxHeartbeats 4000000 in
set_option maxRecDepth 100000 in
theorem m_X8_init {l : Launch} {g : zL} {κ : zK} (a0 : Nat) (σ : Nat → Nat → Bool) (μ : zM) (hA : zAO g) (hSp : zSK g κ) (hk : zkd a0 = 8) {μr : zM} (h : f_X8_init a0 μ = some μr) : zMet l g yX8_init cX8_init 2 none 3 54 1481 (a0 + 1) (a0 + 55) (zsw σ a0 []) (zst σ a0) [.ref (zb g + a0)] μ none μr := by
  have ha0 : a0 < 324 := zkd_lt (by omega)
  unfold f_X8_init at h
  obtain ⟨hx5, hf5, hx20, hf20, hx35, hw35, hf35, hx37, hw37, hf37, hx39, hw39, hf39, hx41, hw41, hf41, hx43, hw43, hf43, hx45, hw45, hf45, hx47, hw47, hf47, hx49, hw49, hf49, hx51, hw51, hf51, hx53, hw53, hf53⟩ := zfx_8 a0 ha0 hk
  have hz0 := zs_8_0 (zT_of hk (by decide))
  have hz4 := zs_8_4 (zT_of hk (by decide))
  have hz5 := zs_8_5 (zT_of hk (by decide))
  have hz6 := zs_8_6 (zT_of hk (by decide))
  refine zMet.of (by decide +kernel) (Nat.le_of_ble_eq_true rfl) ?_
  intro p e s m args below meth c C0
  refine z_loc (lo1 := [(0, .ref (zb g + a0))]) rfl ?_
  refine z_aload_n C0 dX8_init_0 rfl 0 rfl ?_
  refine z_oini C0 rfl (by decide) kO_RX8_3 kO_i kO_b kO_c dX8_init_1 ?_
  refine z_aload_n C0 dX8_init_4 rfl 0 rfl ?_
  refine z_sipush C0 dX8_init_5 (v := 600) rfl ?_
  refine z_newA C0 (len := 600) (t0 := 0) (kind := 20) (ty := .int) rfl rfl rfl hz0.2.2.1 (by decide) hz0.2.2.2 kar_int (Or.inl rfl) (by decide) (by decide) (by decide) (by decide) (by decide) dX8_init_8 ?_
  refine z_putr C0 (σ1 := zsw σ a0 [0]) hk (by omega) kf_8_11 zpf_8_0 rfl (fun q => ⟨rfl, rfl⟩) zr_8_0 hz0.1 (zsw_put σ a0 [] 0 _) dX8_init_10 ?_
  refine z_aload_n C0 dX8_init_13 rfl 0 rfl ?_
  refine z_iconst C0 dX8_init_14 (v := -1) (by decide) ?_
  refine z_puti C0 hk (by omega) kf_8_15 zp_8_3 zr_8_3 rfl dX8_init_15 ?_
  refine z_aload_n C0 dX8_init_18 rfl 0 rfl ?_
  refine z_iconst C0 dX8_init_19 (v := 5) rfl ?_
  refine z_newA C0 (len := 5) (t0 := 0) (kind := 20) (ty := .int) rfl rfl rfl hz4.2.2.1 (by decide) hz4.2.2.2 kar_int (Or.inl rfl) (by decide) (by decide) (by decide) (by decide) (by decide) dX8_init_20 ?_
  refine z_putr C0 (σ1 := zsw σ a0 [4, 0]) hk (by omega) kf_8_19 zpf_8_4 rfl (fun q => ⟨rfl, rfl⟩) zr_8_4 hz4.1 (zsw_put σ a0 [0] 4 _) dX8_init_22 ?_
  refine z_aload_n C0 dX8_init_25 rfl 0 rfl ?_
  refine z_iconst C0 dX8_init_26 (v := 2) rfl ?_
  refine z_newq C0 (t0 := 2) (kind := 22) (len := 2) (σ' := zsq σ a0 [4, 0] (a0 + 3) (fun k => decide (k < 0)) a0 (fun _ => true)) rfl kcl_RX8_22 (hA s C0.2.2.2.2.2.2.2.1).1 rfl hz5.2.2.1 (by decide) hz5.2.2.2 (by decide) (by decide) (by decide) (by decide) (by decide) (fun j => zsq_new1 (by omega)) (fun q hq => zsq_old1 hq) dX8_init_27 ?_
  refine z_putr C0 (σ1 := zsq σ a0 [5, 4, 0] (a0 + 3) (fun k => decide (k < 0)) a0 (fun _ => true)) hk (by omega) kf_8_24 zpf_8_5 rfl (fun q => ⟨rfl, rfl⟩) zr_8_5 hz5.1 (zsq_put σ a0 [4, 0] 5 _ _ _ _ _) dX8_init_30 ?_
  refine z_aload_n C0 dX8_init_33 rfl 0 rfl ?_
  refine z_bipush C0 dX8_init_34 (v := 10) rfl ?_
  refine z_newq C0 (t0 := 3) (kind := 23) (len := 10) (σ' := zsq σ a0 [5, 4, 0] (a0 + 3) (fun k => decide (k < 0)) (a0 + 4) (fun k => decide (k < 0))) rfl kcl_RX8_28 (hA s C0.2.2.2.2.2.2.2.1).2.1 rfl hz6.2.2.1 (by decide) hz6.2.2.2 (by decide) (by decide) (by decide) (by decide) (by decide) (fun j => zsq_new2 (by omega)) (fun q hq => zsq_old2 hq) dX8_init_36 ?_
  refine z_putr C0 (σ1 := zsq σ a0 [6, 5, 4, 0] (a0 + 3) (fun k => decide (k < 0)) (a0 + 4) (fun k => decide (k < 0))) hk (by omega) kf_8_30 zpf_8_6 rfl (fun q => ⟨rfl, rfl⟩) zr_8_6 hz6.1 (zsq_put σ a0 [5, 4, 0] 6 _ _ _ _ _) dX8_init_39 ?_
  refine z_iconst C0 dX8_init_42 (v := 0) rfl ?_
  refine z_istore_n (lo1 := [(1, .int 0), (0, .ref (zb g + a0))]) C0 dX8_init_43 rfl (by decide) rfl ?_
  refine z_iload_n C0 dX8_init_44 rfl 0 rfl ?_
  refine z_iconst C0 dX8_init_45 (v := 2) rfl ?_
  refine z_icmp_ge C0 68 dX8_init_46 (by decide) (fun c => absurd c (by decide : ¬ (2 : Int32) ≤ 0)) (fun _ => ?_)
  refine z_aload_n C0 dX8_init_49 rfl 1 rfl ?_
  refine z_get C0 (v := .ref (zb g + (a0 + 3))) hk (by omega) kf_8_24 (zval_ref zr_8_5 (by unfold zsq; rw [if_pos rfl]; rfl) hz5.1) dX8_init_50 ?_
  refine z_iload_n C0 dX8_init_53 rfl 0 rfl ?_
  refine z_newo (σ' := zsw (zsq σ a0 [6, 5, 4, 0] (a0 + 3) (fun k => decide (k < 0)) (a0 + 4) (fun k => decide (k < 0))) (a0 + 5) []) C0 rfl zcl_1 hx5 kcl_RX8_22 kin_RX1 kii_RX1 zdv_1 (fun j _ _ => zsw_new _ _ _) (fun q hq => zsw_lo _ hq) (by decide) (by decide) dX8_init_54 ?_
  refine z_dup C0 dX8_init_57 rfl ?_
  obtain ⟨μ1, e1, h⟩ := zbd_of h
  refine z_callI C0 (nc := 0) (o := a0 + 5) (As := []) (rest := [.ref (zb g + (a0 + 5)), .int 0, .ref (zb g + (a0 + 3))]) rfl kc_X1_init.1 kc_X1_init.2.1 kc_X1_init.2.2 (by decide) ⟨by decide, by decide, by decide +kernel⟩ rfl km_RX8_34 (m_X1_init (κ := κ) (a0 + 5) (zsq σ a0 [6, 5, 4, 0] (a0 + 3) (fun k => decide (k < 0)) (a0 + 4) (fun k => decide (k < 0))) _  hSp hx5 e1) rfl (Nat.le_of_ble_eq_true rfl) (by decide) (by decide) (by decide) (by omega) rfl dX8_init_58 ?_
  rw [zst_zsq σ [6, 5, 4, 0] _ _ (by omega) (by omega) (by omega)]
  refine z_aast C0 (σ1 := zsq σ a0 [6, 5, 4, 0] (a0 + 3) (fun k => decide (k < 1)) (a0 + 4) (fun k => decide (k < 0))) (kind := 22) (len := 2) (t0 := 2) (r := (RX1, TX1, 12)) (j := 0) ⟨by omega, hz5.2.2.1, hz5.2.2.2⟩ (by decide) rfl hx5 (by decide) (by omega) rfl (by decide) rfl hf5 (zsq_sto1 (by omega)) dX8_init_61 ?_
  refine z_iinc (lo1 := [(1, .int 1), (0, .ref (zb g + a0))]) (x := 0) (v := 1) (w := 1) C0 dX8_init_62 0 rfl rfl rfl (by decide) rfl ?_
  refine z_goto C0 44 dX8_init_65 (by decide) ?_
  refine z_iload_n C0 dX8_init_44 rfl 0 rfl ?_
  refine z_iconst C0 dX8_init_45 (v := 2) rfl ?_
  refine z_icmp_ge C0 68 dX8_init_46 (by decide) (fun c => absurd c (by decide : ¬ (2 : Int32) ≤ 1)) (fun _ => ?_)
  refine z_aload_n C0 dX8_init_49 rfl 1 rfl ?_
  refine z_get C0 (v := .ref (zb g + (a0 + 3))) hk (by omega) kf_8_24 (zval_ref zr_8_5 (by unfold zsq; rw [if_pos rfl]; rfl) hz5.1) dX8_init_50 ?_
  refine z_iload_n C0 dX8_init_53 rfl 0 rfl ?_
  refine z_newo (σ' := zsw (zsq σ a0 [6, 5, 4, 0] (a0 + 3) (fun k => decide (k < 1)) (a0 + 4) (fun k => decide (k < 0))) (a0 + 20) []) C0 rfl zcl_1 hx20 kcl_RX8_22 kin_RX1 kii_RX1 zdv_1 (fun j _ _ => zsw_new _ _ _) (fun q hq => zsw_lo _ hq) (by decide) (by decide) dX8_init_54 ?_
  refine z_dup C0 dX8_init_57 rfl ?_
  obtain ⟨μ2, e2, h⟩ := zbd_of h
  refine z_callI C0 (nc := 0) (o := a0 + 20) (As := []) (rest := [.ref (zb g + (a0 + 20)), .int 1, .ref (zb g + (a0 + 3))]) rfl kc_X1_init.1 kc_X1_init.2.1 kc_X1_init.2.2 (by decide) ⟨by decide, by decide, by decide +kernel⟩ rfl km_RX8_34 (m_X1_init (κ := κ) (a0 + 20) (zsq σ a0 [6, 5, 4, 0] (a0 + 3) (fun k => decide (k < 1)) (a0 + 4) (fun k => decide (k < 0))) _  hSp hx20 e2) rfl (Nat.le_of_ble_eq_true rfl) (by decide) (by decide) (by decide) (by omega) rfl dX8_init_58 ?_
  rw [zst_zsq σ [6, 5, 4, 0] _ _ (by omega) (by omega) (by omega)]
  refine z_aast C0 (σ1 := zsq σ a0 [6, 5, 4, 0] (a0 + 3) (fun k => decide (k < 2)) (a0 + 4) (fun k => decide (k < 0))) (kind := 22) (len := 2) (t0 := 2) (r := (RX1, TX1, 12)) (j := 1) ⟨by omega, hz5.2.2.1, hz5.2.2.2⟩ (by decide) rfl hx20 (by decide) (by omega) rfl (by decide) rfl hf20 (zsq_sto1 (by omega)) dX8_init_61 ?_
  refine z_iinc (lo1 := [(1, .int 2), (0, .ref (zb g + a0))]) (x := 1) (v := 2) (w := 1) C0 dX8_init_62 0 rfl rfl rfl (by decide) rfl ?_
  refine z_goto C0 44 dX8_init_65 (by decide) ?_
  refine z_iload_n C0 dX8_init_44 rfl 0 rfl ?_
  refine z_iconst C0 dX8_init_45 (v := 2) rfl ?_
  refine z_icmp_ge C0 68 dX8_init_46 (by decide) (fun _ => ?_) (fun c => absurd (by decide : (2 : Int32) ≤ 2) c)
  refine z_iconst C0 dX8_init_68 (v := 0) rfl ?_
  refine z_istore_n (lo1 := [(1, .int 0), (0, .ref (zb g + a0))]) C0 dX8_init_69 rfl (by decide) rfl ?_
  refine z_iload_n C0 dX8_init_70 rfl 0 rfl ?_
  refine z_bipush C0 dX8_init_71 (v := 10) rfl ?_
  refine z_icmp_ge C0 101 dX8_init_73 (by decide) (fun c => absurd c (by decide : ¬ (10 : Int32) ≤ 0)) (fun _ => ?_)
  refine z_aload_n C0 dX8_init_76 rfl 1 rfl ?_
  refine z_get C0 (v := .ref (zb g + (a0 + 4))) hk (by omega) kf_8_30 (zval_ref zr_8_6 (by unfold zsq; rw [if_pos rfl]; rfl) hz6.1) dX8_init_77 ?_
  refine z_iload_n C0 dX8_init_80 rfl 0 rfl ?_
  refine z_newo (σ' := zsw (zsq σ a0 [6, 5, 4, 0] (a0 + 3) (fun k => decide (k < 2)) (a0 + 4) (fun k => decide (k < 0))) (a0 + 35) []) C0 rfl zcl_6 hx35 kcl_RX8_28 kin_RX6 kii_RX6 zdv_6 (fun j _ _ => zsw_new _ _ _) (fun q hq => zsw_lo _ hq) (by decide) (by decide) dX8_init_81 ?_
  refine z_dup C0 dX8_init_84 rfl ?_
  refine z_iload_n C0 dX8_init_85 rfl 0 rfl ?_
  refine z_iconst C0 dX8_init_86 (v := 2) rfl ?_
  refine z_idiv C0 dX8_init_87 (by decide) ?_
  refine z_nm (show (0 : Int32) = 0 / 2 by decide) ?_
  refine z_callS (As := [.int 0]) (rest := [.ref (zb g + (a0 + 35)), .ref (zb g + (a0 + 35)), .int 0, .ref (zb g + (a0 + 4))]) C0 rfl kc_X5_mostRows km_RX8_35 (r_X5_mostRows 0 (rv := 0) (by decide)) rfl (Nat.le_of_ble_eq_true rfl) (by decide) (by decide) (by decide) (Nat.le_refl _) rfl rfl dX8_init_88 ?_
  refine z_callI C0 (nc := 1) (o := a0 + 35) (As := [.int 0]) (rest := [.ref (zb g + (a0 + 35)), .int 0, .ref (zb g + (a0 + 4))]) rfl kc_X6_init.1 kc_X6_init.2.1 kc_X6_init.2.2 (by decide) ⟨by decide, by decide, by decide +kernel⟩ rfl km_RX8_41 (m_X6_init (a0 + 35) (zsq σ a0 [6, 5, 4, 0] (a0 + 3) (fun k => decide (k < 2)) (a0 + 4) (fun k => decide (k < 0))) _ 0 (w := 0) hx35 hw35 (by decide) (by decide) (by decide)) rfl (Nat.le_of_ble_eq_true rfl) (by decide) (by decide) (by decide) (by omega) rfl dX8_init_91 ?_
  rw [zst_zsq σ [6, 5, 4, 0] _ _ (by omega) (by omega) (by omega)]
  refine z_aast C0 (σ1 := zsq σ a0 [6, 5, 4, 0] (a0 + 3) (fun k => decide (k < 2)) (a0 + 4) (fun k => decide (k < 1))) (kind := 23) (len := 10) (t0 := 3) (r := (RX6, TX6, 3)) (j := 0) ⟨by omega, hz6.2.2.1, hz6.2.2.2⟩ (by decide) rfl hx35 (by decide) (by omega) rfl (by decide) rfl hf35 (zsq_sto2 (by omega)) dX8_init_94 ?_
  refine z_iinc (lo1 := [(1, .int 1), (0, .ref (zb g + a0))]) (x := 0) (v := 1) (w := 1) C0 dX8_init_95 0 rfl rfl rfl (by decide) rfl ?_
  refine z_goto C0 70 dX8_init_98 (by decide) ?_
  refine z_iload_n C0 dX8_init_70 rfl 0 rfl ?_
  refine z_bipush C0 dX8_init_71 (v := 10) rfl ?_
  refine z_icmp_ge C0 101 dX8_init_73 (by decide) (fun c => absurd c (by decide : ¬ (10 : Int32) ≤ 1)) (fun _ => ?_)
  refine z_aload_n C0 dX8_init_76 rfl 1 rfl ?_
  refine z_get C0 (v := .ref (zb g + (a0 + 4))) hk (by omega) kf_8_30 (zval_ref zr_8_6 (by unfold zsq; rw [if_pos rfl]; rfl) hz6.1) dX8_init_77 ?_
  refine z_iload_n C0 dX8_init_80 rfl 0 rfl ?_
  refine z_newo (σ' := zsw (zsq σ a0 [6, 5, 4, 0] (a0 + 3) (fun k => decide (k < 2)) (a0 + 4) (fun k => decide (k < 1))) (a0 + 37) []) C0 rfl zcl_6 hx37 kcl_RX8_28 kin_RX6 kii_RX6 zdv_6 (fun j _ _ => zsw_new _ _ _) (fun q hq => zsw_lo _ hq) (by decide) (by decide) dX8_init_81 ?_
  refine z_dup C0 dX8_init_84 rfl ?_
  refine z_iload_n C0 dX8_init_85 rfl 0 rfl ?_
  refine z_iconst C0 dX8_init_86 (v := 2) rfl ?_
  refine z_idiv C0 dX8_init_87 (by decide) ?_
  refine z_nm (show (0 : Int32) = 1 / 2 by decide) ?_
  refine z_callS (As := [.int 0]) (rest := [.ref (zb g + (a0 + 37)), .ref (zb g + (a0 + 37)), .int 1, .ref (zb g + (a0 + 4))]) C0 rfl kc_X5_mostRows km_RX8_35 (r_X5_mostRows 0 (rv := 0) (by decide)) rfl (Nat.le_of_ble_eq_true rfl) (by decide) (by decide) (by decide) (Nat.le_refl _) rfl rfl dX8_init_88 ?_
  refine z_callI C0 (nc := 1) (o := a0 + 37) (As := [.int 0]) (rest := [.ref (zb g + (a0 + 37)), .int 1, .ref (zb g + (a0 + 4))]) rfl kc_X6_init.1 kc_X6_init.2.1 kc_X6_init.2.2 (by decide) ⟨by decide, by decide, by decide +kernel⟩ rfl km_RX8_41 (m_X6_init (a0 + 37) (zsq σ a0 [6, 5, 4, 0] (a0 + 3) (fun k => decide (k < 2)) (a0 + 4) (fun k => decide (k < 1))) _ 0 (w := 0) hx37 hw37 (by decide) (by decide) (by decide)) rfl (Nat.le_of_ble_eq_true rfl) (by decide) (by decide) (by decide) (by omega) rfl dX8_init_91 ?_
  rw [zst_zsq σ [6, 5, 4, 0] _ _ (by omega) (by omega) (by omega)]
  refine z_aast C0 (σ1 := zsq σ a0 [6, 5, 4, 0] (a0 + 3) (fun k => decide (k < 2)) (a0 + 4) (fun k => decide (k < 2))) (kind := 23) (len := 10) (t0 := 3) (r := (RX6, TX6, 3)) (j := 1) ⟨by omega, hz6.2.2.1, hz6.2.2.2⟩ (by decide) rfl hx37 (by decide) (by omega) rfl (by decide) rfl hf37 (zsq_sto2 (by omega)) dX8_init_94 ?_
  refine z_iinc (lo1 := [(1, .int 2), (0, .ref (zb g + a0))]) (x := 1) (v := 2) (w := 1) C0 dX8_init_95 0 rfl rfl rfl (by decide) rfl ?_
  refine z_goto C0 70 dX8_init_98 (by decide) ?_
  refine z_iload_n C0 dX8_init_70 rfl 0 rfl ?_
  refine z_bipush C0 dX8_init_71 (v := 10) rfl ?_
  refine z_icmp_ge C0 101 dX8_init_73 (by decide) (fun c => absurd c (by decide : ¬ (10 : Int32) ≤ 2)) (fun _ => ?_)
  refine z_aload_n C0 dX8_init_76 rfl 1 rfl ?_
  refine z_get C0 (v := .ref (zb g + (a0 + 4))) hk (by omega) kf_8_30 (zval_ref zr_8_6 (by unfold zsq; rw [if_pos rfl]; rfl) hz6.1) dX8_init_77 ?_
  refine z_iload_n C0 dX8_init_80 rfl 0 rfl ?_
  refine z_newo (σ' := zsw (zsq σ a0 [6, 5, 4, 0] (a0 + 3) (fun k => decide (k < 2)) (a0 + 4) (fun k => decide (k < 2))) (a0 + 39) []) C0 rfl zcl_6 hx39 kcl_RX8_28 kin_RX6 kii_RX6 zdv_6 (fun j _ _ => zsw_new _ _ _) (fun q hq => zsw_lo _ hq) (by decide) (by decide) dX8_init_81 ?_
  refine z_dup C0 dX8_init_84 rfl ?_
  refine z_iload_n C0 dX8_init_85 rfl 0 rfl ?_
  refine z_iconst C0 dX8_init_86 (v := 2) rfl ?_
  refine z_idiv C0 dX8_init_87 (by decide) ?_
  refine z_nm (show (1 : Int32) = 2 / 2 by decide) ?_
  refine z_callS (As := [.int 1]) (rest := [.ref (zb g + (a0 + 39)), .ref (zb g + (a0 + 39)), .int 2, .ref (zb g + (a0 + 4))]) C0 rfl kc_X5_mostRows km_RX8_35 (r_X5_mostRows 1 (rv := 40) (by decide)) rfl (Nat.le_of_ble_eq_true rfl) (by decide) (by decide) (by decide) (Nat.le_refl _) rfl rfl dX8_init_88 ?_
  refine z_callI C0 (nc := 1) (o := a0 + 39) (As := [.int 40]) (rest := [.ref (zb g + (a0 + 39)), .int 2, .ref (zb g + (a0 + 4))]) rfl kc_X6_init.1 kc_X6_init.2.1 kc_X6_init.2.2 (by decide) ⟨by decide, by decide, by decide +kernel⟩ rfl km_RX8_41 (m_X6_init (a0 + 39) (zsq σ a0 [6, 5, 4, 0] (a0 + 3) (fun k => decide (k < 2)) (a0 + 4) (fun k => decide (k < 2))) _ 40 (w := 120) hx39 hw39 (by decide) (by decide) (by decide)) rfl (Nat.le_of_ble_eq_true rfl) (by decide) (by decide) (by decide) (by omega) rfl dX8_init_91 ?_
  rw [zst_zsq σ [6, 5, 4, 0] _ _ (by omega) (by omega) (by omega)]
  refine z_aast C0 (σ1 := zsq σ a0 [6, 5, 4, 0] (a0 + 3) (fun k => decide (k < 2)) (a0 + 4) (fun k => decide (k < 3))) (kind := 23) (len := 10) (t0 := 3) (r := (RX6, TX6, 3)) (j := 2) ⟨by omega, hz6.2.2.1, hz6.2.2.2⟩ (by decide) rfl hx39 (by decide) (by omega) rfl (by decide) rfl hf39 (zsq_sto2 (by omega)) dX8_init_94 ?_
  refine z_iinc (lo1 := [(1, .int 3), (0, .ref (zb g + a0))]) (x := 2) (v := 3) (w := 1) C0 dX8_init_95 0 rfl rfl rfl (by decide) rfl ?_
  refine z_goto C0 70 dX8_init_98 (by decide) ?_
  refine z_iload_n C0 dX8_init_70 rfl 0 rfl ?_
  refine z_bipush C0 dX8_init_71 (v := 10) rfl ?_
  refine z_icmp_ge C0 101 dX8_init_73 (by decide) (fun c => absurd c (by decide : ¬ (10 : Int32) ≤ 3)) (fun _ => ?_)
  refine z_aload_n C0 dX8_init_76 rfl 1 rfl ?_
  refine z_get C0 (v := .ref (zb g + (a0 + 4))) hk (by omega) kf_8_30 (zval_ref zr_8_6 (by unfold zsq; rw [if_pos rfl]; rfl) hz6.1) dX8_init_77 ?_
  refine z_iload_n C0 dX8_init_80 rfl 0 rfl ?_
  refine z_newo (σ' := zsw (zsq σ a0 [6, 5, 4, 0] (a0 + 3) (fun k => decide (k < 2)) (a0 + 4) (fun k => decide (k < 3))) (a0 + 41) []) C0 rfl zcl_6 hx41 kcl_RX8_28 kin_RX6 kii_RX6 zdv_6 (fun j _ _ => zsw_new _ _ _) (fun q hq => zsw_lo _ hq) (by decide) (by decide) dX8_init_81 ?_
  refine z_dup C0 dX8_init_84 rfl ?_
  refine z_iload_n C0 dX8_init_85 rfl 0 rfl ?_
  refine z_iconst C0 dX8_init_86 (v := 2) rfl ?_
  refine z_idiv C0 dX8_init_87 (by decide) ?_
  refine z_nm (show (1 : Int32) = 3 / 2 by decide) ?_
  refine z_callS (As := [.int 1]) (rest := [.ref (zb g + (a0 + 41)), .ref (zb g + (a0 + 41)), .int 3, .ref (zb g + (a0 + 4))]) C0 rfl kc_X5_mostRows km_RX8_35 (r_X5_mostRows 1 (rv := 40) (by decide)) rfl (Nat.le_of_ble_eq_true rfl) (by decide) (by decide) (by decide) (Nat.le_refl _) rfl rfl dX8_init_88 ?_
  refine z_callI C0 (nc := 1) (o := a0 + 41) (As := [.int 40]) (rest := [.ref (zb g + (a0 + 41)), .int 3, .ref (zb g + (a0 + 4))]) rfl kc_X6_init.1 kc_X6_init.2.1 kc_X6_init.2.2 (by decide) ⟨by decide, by decide, by decide +kernel⟩ rfl km_RX8_41 (m_X6_init (a0 + 41) (zsq σ a0 [6, 5, 4, 0] (a0 + 3) (fun k => decide (k < 2)) (a0 + 4) (fun k => decide (k < 3))) _ 40 (w := 120) hx41 hw41 (by decide) (by decide) (by decide)) rfl (Nat.le_of_ble_eq_true rfl) (by decide) (by decide) (by decide) (by omega) rfl dX8_init_91 ?_
  rw [zst_zsq σ [6, 5, 4, 0] _ _ (by omega) (by omega) (by omega)]
  refine z_aast C0 (σ1 := zsq σ a0 [6, 5, 4, 0] (a0 + 3) (fun k => decide (k < 2)) (a0 + 4) (fun k => decide (k < 4))) (kind := 23) (len := 10) (t0 := 3) (r := (RX6, TX6, 3)) (j := 3) ⟨by omega, hz6.2.2.1, hz6.2.2.2⟩ (by decide) rfl hx41 (by decide) (by omega) rfl (by decide) rfl hf41 (zsq_sto2 (by omega)) dX8_init_94 ?_
  refine z_iinc (lo1 := [(1, .int 4), (0, .ref (zb g + a0))]) (x := 3) (v := 4) (w := 1) C0 dX8_init_95 0 rfl rfl rfl (by decide) rfl ?_
  refine z_goto C0 70 dX8_init_98 (by decide) ?_
  refine z_iload_n C0 dX8_init_70 rfl 0 rfl ?_
  refine z_bipush C0 dX8_init_71 (v := 10) rfl ?_
  refine z_icmp_ge C0 101 dX8_init_73 (by decide) (fun c => absurd c (by decide : ¬ (10 : Int32) ≤ 4)) (fun _ => ?_)
  refine z_aload_n C0 dX8_init_76 rfl 1 rfl ?_
  refine z_get C0 (v := .ref (zb g + (a0 + 4))) hk (by omega) kf_8_30 (zval_ref zr_8_6 (by unfold zsq; rw [if_pos rfl]; rfl) hz6.1) dX8_init_77 ?_
  refine z_iload_n C0 dX8_init_80 rfl 0 rfl ?_
  refine z_newo (σ' := zsw (zsq σ a0 [6, 5, 4, 0] (a0 + 3) (fun k => decide (k < 2)) (a0 + 4) (fun k => decide (k < 4))) (a0 + 43) []) C0 rfl zcl_6 hx43 kcl_RX8_28 kin_RX6 kii_RX6 zdv_6 (fun j _ _ => zsw_new _ _ _) (fun q hq => zsw_lo _ hq) (by decide) (by decide) dX8_init_81 ?_
  refine z_dup C0 dX8_init_84 rfl ?_
  refine z_iload_n C0 dX8_init_85 rfl 0 rfl ?_
  refine z_iconst C0 dX8_init_86 (v := 2) rfl ?_
  refine z_idiv C0 dX8_init_87 (by decide) ?_
  refine z_nm (show (2 : Int32) = 4 / 2 by decide) ?_
  refine z_callS (As := [.int 2]) (rest := [.ref (zb g + (a0 + 43)), .ref (zb g + (a0 + 43)), .int 4, .ref (zb g + (a0 + 4))]) C0 rfl kc_X5_mostRows km_RX8_35 (r_X5_mostRows 2 (rv := 8) (by decide)) rfl (Nat.le_of_ble_eq_true rfl) (by decide) (by decide) (by decide) (Nat.le_refl _) rfl rfl dX8_init_88 ?_
  refine z_callI C0 (nc := 1) (o := a0 + 43) (As := [.int 8]) (rest := [.ref (zb g + (a0 + 43)), .int 4, .ref (zb g + (a0 + 4))]) rfl kc_X6_init.1 kc_X6_init.2.1 kc_X6_init.2.2 (by decide) ⟨by decide, by decide, by decide +kernel⟩ rfl km_RX8_41 (m_X6_init (a0 + 43) (zsq σ a0 [6, 5, 4, 0] (a0 + 3) (fun k => decide (k < 2)) (a0 + 4) (fun k => decide (k < 4))) _ 8 (w := 24) hx43 hw43 (by decide) (by decide) (by decide)) rfl (Nat.le_of_ble_eq_true rfl) (by decide) (by decide) (by decide) (by omega) rfl dX8_init_91 ?_
  rw [zst_zsq σ [6, 5, 4, 0] _ _ (by omega) (by omega) (by omega)]
  refine z_aast C0 (σ1 := zsq σ a0 [6, 5, 4, 0] (a0 + 3) (fun k => decide (k < 2)) (a0 + 4) (fun k => decide (k < 5))) (kind := 23) (len := 10) (t0 := 3) (r := (RX6, TX6, 3)) (j := 4) ⟨by omega, hz6.2.2.1, hz6.2.2.2⟩ (by decide) rfl hx43 (by decide) (by omega) rfl (by decide) rfl hf43 (zsq_sto2 (by omega)) dX8_init_94 ?_
  refine z_iinc (lo1 := [(1, .int 5), (0, .ref (zb g + a0))]) (x := 4) (v := 5) (w := 1) C0 dX8_init_95 0 rfl rfl rfl (by decide) rfl ?_
  refine z_goto C0 70 dX8_init_98 (by decide) ?_
  refine z_iload_n C0 dX8_init_70 rfl 0 rfl ?_
  refine z_bipush C0 dX8_init_71 (v := 10) rfl ?_
  refine z_icmp_ge C0 101 dX8_init_73 (by decide) (fun c => absurd c (by decide : ¬ (10 : Int32) ≤ 5)) (fun _ => ?_)
  refine z_aload_n C0 dX8_init_76 rfl 1 rfl ?_
  refine z_get C0 (v := .ref (zb g + (a0 + 4))) hk (by omega) kf_8_30 (zval_ref zr_8_6 (by unfold zsq; rw [if_pos rfl]; rfl) hz6.1) dX8_init_77 ?_
  refine z_iload_n C0 dX8_init_80 rfl 0 rfl ?_
  refine z_newo (σ' := zsw (zsq σ a0 [6, 5, 4, 0] (a0 + 3) (fun k => decide (k < 2)) (a0 + 4) (fun k => decide (k < 5))) (a0 + 45) []) C0 rfl zcl_6 hx45 kcl_RX8_28 kin_RX6 kii_RX6 zdv_6 (fun j _ _ => zsw_new _ _ _) (fun q hq => zsw_lo _ hq) (by decide) (by decide) dX8_init_81 ?_
  refine z_dup C0 dX8_init_84 rfl ?_
  refine z_iload_n C0 dX8_init_85 rfl 0 rfl ?_
  refine z_iconst C0 dX8_init_86 (v := 2) rfl ?_
  refine z_idiv C0 dX8_init_87 (by decide) ?_
  refine z_nm (show (2 : Int32) = 5 / 2 by decide) ?_
  refine z_callS (As := [.int 2]) (rest := [.ref (zb g + (a0 + 45)), .ref (zb g + (a0 + 45)), .int 5, .ref (zb g + (a0 + 4))]) C0 rfl kc_X5_mostRows km_RX8_35 (r_X5_mostRows 2 (rv := 8) (by decide)) rfl (Nat.le_of_ble_eq_true rfl) (by decide) (by decide) (by decide) (Nat.le_refl _) rfl rfl dX8_init_88 ?_
  refine z_callI C0 (nc := 1) (o := a0 + 45) (As := [.int 8]) (rest := [.ref (zb g + (a0 + 45)), .int 5, .ref (zb g + (a0 + 4))]) rfl kc_X6_init.1 kc_X6_init.2.1 kc_X6_init.2.2 (by decide) ⟨by decide, by decide, by decide +kernel⟩ rfl km_RX8_41 (m_X6_init (a0 + 45) (zsq σ a0 [6, 5, 4, 0] (a0 + 3) (fun k => decide (k < 2)) (a0 + 4) (fun k => decide (k < 5))) _ 8 (w := 24) hx45 hw45 (by decide) (by decide) (by decide)) rfl (Nat.le_of_ble_eq_true rfl) (by decide) (by decide) (by decide) (by omega) rfl dX8_init_91 ?_
  rw [zst_zsq σ [6, 5, 4, 0] _ _ (by omega) (by omega) (by omega)]
  refine z_aast C0 (σ1 := zsq σ a0 [6, 5, 4, 0] (a0 + 3) (fun k => decide (k < 2)) (a0 + 4) (fun k => decide (k < 6))) (kind := 23) (len := 10) (t0 := 3) (r := (RX6, TX6, 3)) (j := 5) ⟨by omega, hz6.2.2.1, hz6.2.2.2⟩ (by decide) rfl hx45 (by decide) (by omega) rfl (by decide) rfl hf45 (zsq_sto2 (by omega)) dX8_init_94 ?_
  refine z_iinc (lo1 := [(1, .int 6), (0, .ref (zb g + a0))]) (x := 5) (v := 6) (w := 1) C0 dX8_init_95 0 rfl rfl rfl (by decide) rfl ?_
  refine z_goto C0 70 dX8_init_98 (by decide) ?_
  refine z_iload_n C0 dX8_init_70 rfl 0 rfl ?_
  refine z_bipush C0 dX8_init_71 (v := 10) rfl ?_
  refine z_icmp_ge C0 101 dX8_init_73 (by decide) (fun c => absurd c (by decide : ¬ (10 : Int32) ≤ 6)) (fun _ => ?_)
  refine z_aload_n C0 dX8_init_76 rfl 1 rfl ?_
  refine z_get C0 (v := .ref (zb g + (a0 + 4))) hk (by omega) kf_8_30 (zval_ref zr_8_6 (by unfold zsq; rw [if_pos rfl]; rfl) hz6.1) dX8_init_77 ?_
  refine z_iload_n C0 dX8_init_80 rfl 0 rfl ?_
  refine z_newo (σ' := zsw (zsq σ a0 [6, 5, 4, 0] (a0 + 3) (fun k => decide (k < 2)) (a0 + 4) (fun k => decide (k < 6))) (a0 + 47) []) C0 rfl zcl_6 hx47 kcl_RX8_28 kin_RX6 kii_RX6 zdv_6 (fun j _ _ => zsw_new _ _ _) (fun q hq => zsw_lo _ hq) (by decide) (by decide) dX8_init_81 ?_
  refine z_dup C0 dX8_init_84 rfl ?_
  refine z_iload_n C0 dX8_init_85 rfl 0 rfl ?_
  refine z_iconst C0 dX8_init_86 (v := 2) rfl ?_
  refine z_idiv C0 dX8_init_87 (by decide) ?_
  refine z_nm (show (3 : Int32) = 6 / 2 by decide) ?_
  refine z_callS (As := [.int 3]) (rest := [.ref (zb g + (a0 + 47)), .ref (zb g + (a0 + 47)), .int 6, .ref (zb g + (a0 + 4))]) C0 rfl kc_X5_mostRows km_RX8_35 (r_X5_mostRows 3 (rv := 8) (by decide)) rfl (Nat.le_of_ble_eq_true rfl) (by decide) (by decide) (by decide) (Nat.le_refl _) rfl rfl dX8_init_88 ?_
  refine z_callI C0 (nc := 1) (o := a0 + 47) (As := [.int 8]) (rest := [.ref (zb g + (a0 + 47)), .int 6, .ref (zb g + (a0 + 4))]) rfl kc_X6_init.1 kc_X6_init.2.1 kc_X6_init.2.2 (by decide) ⟨by decide, by decide, by decide +kernel⟩ rfl km_RX8_41 (m_X6_init (a0 + 47) (zsq σ a0 [6, 5, 4, 0] (a0 + 3) (fun k => decide (k < 2)) (a0 + 4) (fun k => decide (k < 6))) _ 8 (w := 24) hx47 hw47 (by decide) (by decide) (by decide)) rfl (Nat.le_of_ble_eq_true rfl) (by decide) (by decide) (by decide) (by omega) rfl dX8_init_91 ?_
  rw [zst_zsq σ [6, 5, 4, 0] _ _ (by omega) (by omega) (by omega)]
  refine z_aast C0 (σ1 := zsq σ a0 [6, 5, 4, 0] (a0 + 3) (fun k => decide (k < 2)) (a0 + 4) (fun k => decide (k < 7))) (kind := 23) (len := 10) (t0 := 3) (r := (RX6, TX6, 3)) (j := 6) ⟨by omega, hz6.2.2.1, hz6.2.2.2⟩ (by decide) rfl hx47 (by decide) (by omega) rfl (by decide) rfl hf47 (zsq_sto2 (by omega)) dX8_init_94 ?_
  refine z_iinc (lo1 := [(1, .int 7), (0, .ref (zb g + a0))]) (x := 6) (v := 7) (w := 1) C0 dX8_init_95 0 rfl rfl rfl (by decide) rfl ?_
  refine z_goto C0 70 dX8_init_98 (by decide) ?_
  refine z_iload_n C0 dX8_init_70 rfl 0 rfl ?_
  refine z_bipush C0 dX8_init_71 (v := 10) rfl ?_
  refine z_icmp_ge C0 101 dX8_init_73 (by decide) (fun c => absurd c (by decide : ¬ (10 : Int32) ≤ 7)) (fun _ => ?_)
  refine z_aload_n C0 dX8_init_76 rfl 1 rfl ?_
  refine z_get C0 (v := .ref (zb g + (a0 + 4))) hk (by omega) kf_8_30 (zval_ref zr_8_6 (by unfold zsq; rw [if_pos rfl]; rfl) hz6.1) dX8_init_77 ?_
  refine z_iload_n C0 dX8_init_80 rfl 0 rfl ?_
  refine z_newo (σ' := zsw (zsq σ a0 [6, 5, 4, 0] (a0 + 3) (fun k => decide (k < 2)) (a0 + 4) (fun k => decide (k < 7))) (a0 + 49) []) C0 rfl zcl_6 hx49 kcl_RX8_28 kin_RX6 kii_RX6 zdv_6 (fun j _ _ => zsw_new _ _ _) (fun q hq => zsw_lo _ hq) (by decide) (by decide) dX8_init_81 ?_
  refine z_dup C0 dX8_init_84 rfl ?_
  refine z_iload_n C0 dX8_init_85 rfl 0 rfl ?_
  refine z_iconst C0 dX8_init_86 (v := 2) rfl ?_
  refine z_idiv C0 dX8_init_87 (by decide) ?_
  refine z_nm (show (3 : Int32) = 7 / 2 by decide) ?_
  refine z_callS (As := [.int 3]) (rest := [.ref (zb g + (a0 + 49)), .ref (zb g + (a0 + 49)), .int 7, .ref (zb g + (a0 + 4))]) C0 rfl kc_X5_mostRows km_RX8_35 (r_X5_mostRows 3 (rv := 8) (by decide)) rfl (Nat.le_of_ble_eq_true rfl) (by decide) (by decide) (by decide) (Nat.le_refl _) rfl rfl dX8_init_88 ?_
  refine z_callI C0 (nc := 1) (o := a0 + 49) (As := [.int 8]) (rest := [.ref (zb g + (a0 + 49)), .int 7, .ref (zb g + (a0 + 4))]) rfl kc_X6_init.1 kc_X6_init.2.1 kc_X6_init.2.2 (by decide) ⟨by decide, by decide, by decide +kernel⟩ rfl km_RX8_41 (m_X6_init (a0 + 49) (zsq σ a0 [6, 5, 4, 0] (a0 + 3) (fun k => decide (k < 2)) (a0 + 4) (fun k => decide (k < 7))) _ 8 (w := 24) hx49 hw49 (by decide) (by decide) (by decide)) rfl (Nat.le_of_ble_eq_true rfl) (by decide) (by decide) (by decide) (by omega) rfl dX8_init_91 ?_
  rw [zst_zsq σ [6, 5, 4, 0] _ _ (by omega) (by omega) (by omega)]
  refine z_aast C0 (σ1 := zsq σ a0 [6, 5, 4, 0] (a0 + 3) (fun k => decide (k < 2)) (a0 + 4) (fun k => decide (k < 8))) (kind := 23) (len := 10) (t0 := 3) (r := (RX6, TX6, 3)) (j := 7) ⟨by omega, hz6.2.2.1, hz6.2.2.2⟩ (by decide) rfl hx49 (by decide) (by omega) rfl (by decide) rfl hf49 (zsq_sto2 (by omega)) dX8_init_94 ?_
  refine z_iinc (lo1 := [(1, .int 8), (0, .ref (zb g + a0))]) (x := 7) (v := 8) (w := 1) C0 dX8_init_95 0 rfl rfl rfl (by decide) rfl ?_
  refine z_goto C0 70 dX8_init_98 (by decide) ?_
  refine z_iload_n C0 dX8_init_70 rfl 0 rfl ?_
  refine z_bipush C0 dX8_init_71 (v := 10) rfl ?_
  refine z_icmp_ge C0 101 dX8_init_73 (by decide) (fun c => absurd c (by decide : ¬ (10 : Int32) ≤ 8)) (fun _ => ?_)
  refine z_aload_n C0 dX8_init_76 rfl 1 rfl ?_
  refine z_get C0 (v := .ref (zb g + (a0 + 4))) hk (by omega) kf_8_30 (zval_ref zr_8_6 (by unfold zsq; rw [if_pos rfl]; rfl) hz6.1) dX8_init_77 ?_
  refine z_iload_n C0 dX8_init_80 rfl 0 rfl ?_
  refine z_newo (σ' := zsw (zsq σ a0 [6, 5, 4, 0] (a0 + 3) (fun k => decide (k < 2)) (a0 + 4) (fun k => decide (k < 8))) (a0 + 51) []) C0 rfl zcl_6 hx51 kcl_RX8_28 kin_RX6 kii_RX6 zdv_6 (fun j _ _ => zsw_new _ _ _) (fun q hq => zsw_lo _ hq) (by decide) (by decide) dX8_init_81 ?_
  refine z_dup C0 dX8_init_84 rfl ?_
  refine z_iload_n C0 dX8_init_85 rfl 0 rfl ?_
  refine z_iconst C0 dX8_init_86 (v := 2) rfl ?_
  refine z_idiv C0 dX8_init_87 (by decide) ?_
  refine z_nm (show (4 : Int32) = 8 / 2 by decide) ?_
  refine z_callS (As := [.int 4]) (rest := [.ref (zb g + (a0 + 51)), .ref (zb g + (a0 + 51)), .int 8, .ref (zb g + (a0 + 4))]) C0 rfl kc_X5_mostRows km_RX8_35 (r_X5_mostRows 4 (rv := 8) (by decide)) rfl (Nat.le_of_ble_eq_true rfl) (by decide) (by decide) (by decide) (Nat.le_refl _) rfl rfl dX8_init_88 ?_
  refine z_callI C0 (nc := 1) (o := a0 + 51) (As := [.int 8]) (rest := [.ref (zb g + (a0 + 51)), .int 8, .ref (zb g + (a0 + 4))]) rfl kc_X6_init.1 kc_X6_init.2.1 kc_X6_init.2.2 (by decide) ⟨by decide, by decide, by decide +kernel⟩ rfl km_RX8_41 (m_X6_init (a0 + 51) (zsq σ a0 [6, 5, 4, 0] (a0 + 3) (fun k => decide (k < 2)) (a0 + 4) (fun k => decide (k < 8))) _ 8 (w := 24) hx51 hw51 (by decide) (by decide) (by decide)) rfl (Nat.le_of_ble_eq_true rfl) (by decide) (by decide) (by decide) (by omega) rfl dX8_init_91 ?_
  rw [zst_zsq σ [6, 5, 4, 0] _ _ (by omega) (by omega) (by omega)]
  refine z_aast C0 (σ1 := zsq σ a0 [6, 5, 4, 0] (a0 + 3) (fun k => decide (k < 2)) (a0 + 4) (fun k => decide (k < 9))) (kind := 23) (len := 10) (t0 := 3) (r := (RX6, TX6, 3)) (j := 8) ⟨by omega, hz6.2.2.1, hz6.2.2.2⟩ (by decide) rfl hx51 (by decide) (by omega) rfl (by decide) rfl hf51 (zsq_sto2 (by omega)) dX8_init_94 ?_
  refine z_iinc (lo1 := [(1, .int 9), (0, .ref (zb g + a0))]) (x := 8) (v := 9) (w := 1) C0 dX8_init_95 0 rfl rfl rfl (by decide) rfl ?_
  refine z_goto C0 70 dX8_init_98 (by decide) ?_
  refine z_iload_n C0 dX8_init_70 rfl 0 rfl ?_
  refine z_bipush C0 dX8_init_71 (v := 10) rfl ?_
  refine z_icmp_ge C0 101 dX8_init_73 (by decide) (fun c => absurd c (by decide : ¬ (10 : Int32) ≤ 9)) (fun _ => ?_)
  refine z_aload_n C0 dX8_init_76 rfl 1 rfl ?_
  refine z_get C0 (v := .ref (zb g + (a0 + 4))) hk (by omega) kf_8_30 (zval_ref zr_8_6 (by unfold zsq; rw [if_pos rfl]; rfl) hz6.1) dX8_init_77 ?_
  refine z_iload_n C0 dX8_init_80 rfl 0 rfl ?_
  refine z_newo (σ' := zsw (zsq σ a0 [6, 5, 4, 0] (a0 + 3) (fun k => decide (k < 2)) (a0 + 4) (fun k => decide (k < 9))) (a0 + 53) []) C0 rfl zcl_6 hx53 kcl_RX8_28 kin_RX6 kii_RX6 zdv_6 (fun j _ _ => zsw_new _ _ _) (fun q hq => zsw_lo _ hq) (by decide) (by decide) dX8_init_81 ?_
  refine z_dup C0 dX8_init_84 rfl ?_
  refine z_iload_n C0 dX8_init_85 rfl 0 rfl ?_
  refine z_iconst C0 dX8_init_86 (v := 2) rfl ?_
  refine z_idiv C0 dX8_init_87 (by decide) ?_
  refine z_nm (show (4 : Int32) = 9 / 2 by decide) ?_
  refine z_callS (As := [.int 4]) (rest := [.ref (zb g + (a0 + 53)), .ref (zb g + (a0 + 53)), .int 9, .ref (zb g + (a0 + 4))]) C0 rfl kc_X5_mostRows km_RX8_35 (r_X5_mostRows 4 (rv := 8) (by decide)) rfl (Nat.le_of_ble_eq_true rfl) (by decide) (by decide) (by decide) (Nat.le_refl _) rfl rfl dX8_init_88 ?_
  refine z_callI C0 (nc := 1) (o := a0 + 53) (As := [.int 8]) (rest := [.ref (zb g + (a0 + 53)), .int 9, .ref (zb g + (a0 + 4))]) rfl kc_X6_init.1 kc_X6_init.2.1 kc_X6_init.2.2 (by decide) ⟨by decide, by decide, by decide +kernel⟩ rfl km_RX8_41 (m_X6_init (a0 + 53) (zsq σ a0 [6, 5, 4, 0] (a0 + 3) (fun k => decide (k < 2)) (a0 + 4) (fun k => decide (k < 9))) _ 8 (w := 24) hx53 hw53 (by decide) (by decide) (by decide)) rfl (Nat.le_of_ble_eq_true rfl) (by decide) (by decide) (by decide) (by omega) rfl dX8_init_91 ?_
  rw [zst_zsq σ [6, 5, 4, 0] _ _ (by omega) (by omega) (by omega)]
  refine z_aast C0 (σ1 := zsq σ a0 [6, 5, 4, 0] (a0 + 3) (fun k => decide (k < 2)) (a0 + 4) (fun k => decide (k < 10))) (kind := 23) (len := 10) (t0 := 3) (r := (RX6, TX6, 3)) (j := 9) ⟨by omega, hz6.2.2.1, hz6.2.2.2⟩ (by decide) rfl hx53 (by decide) (by omega) rfl (by decide) rfl hf53 (zsq_sto2 (by omega)) dX8_init_94 ?_
  refine z_iinc (lo1 := [(1, .int 10), (0, .ref (zb g + a0))]) (x := 9) (v := 10) (w := 1) C0 dX8_init_95 0 rfl rfl rfl (by decide) rfl ?_
  refine z_goto C0 70 dX8_init_98 (by decide) ?_
  refine z_iload_n C0 dX8_init_70 rfl 0 rfl ?_
  refine z_bipush C0 dX8_init_71 (v := 10) rfl ?_
  refine z_icmp_ge C0 101 dX8_init_73 (by decide) (fun _ => ?_) (fun c => absurd (by decide : (10 : Int32) ≤ 10) c)
  refine z_sigA (zsq_end (ks := [6, 5, 4, 0]) hk (by decide) (by decide +kernel) ⟨by omega, Or.inl (by omega)⟩ (by have := hz5.2.2.1; omega) (Or.inl (by have := hz6.2.2.1; omega)) (fun k h => decide_eq_true (by have := hz5.2.2.2; omega)) (fun k h => decide_eq_true (by have := hz6.2.2.2; omega))) ?_
  obtain rfl := Option.some.inj h
  exact z_vret C0 rfl dX8_init_101
theorem zfx_5 : ∀ a, a < zNN → zkd a = 5 → zkd (a + 1) = 1 ∧ (zkd (a + 17) = 20 ∧ zln (a + 17) = 0) ∧ zkd (a + 19) = 6 ∧ zln (a + 19 + 1) = 0 ∧ zFX (a + 16) 0 = a + 19 ∧ zkd (a + 21) = 6 ∧ zln (a + 21 + 1) = 120 ∧ zFX (a + 16) 1 = a + 21 ∧ zkd (a + 23) = 6 ∧ zln (a + 23 + 1) = 24 ∧ zFX (a + 16) 2 = a + 23 ∧ zkd (a + 25) = 6 ∧ zln (a + 25 + 1) = 24 ∧ zFX (a + 16) 3 = a + 25 ∧ zkd (a + 27) = 6 ∧ zln (a + 27 + 1) = 24 ∧ zFX (a + 16) 4 = a + 27 := by decide +kernel
def f_X5_init (a0 : Nat) (μ : zM) : Option zM :=
  zbd (f_X1_init (a0 + 1) (znew μ (a0 + 1) 1)) fun μ1 =>
  some (i_X6 (a0 + 27) 8 (i_X6 (a0 + 25) 8 (i_X6 (a0 + 23) 8 (i_X6 (a0 + 21) 40 (i_X6 (a0 + 19) 0 (zupr (zup (zupr (zup μ1 a0 3 (-1)) (a0 + 17) (fun _ => 0)) a0 4 (nI (a0 + 17))) (a0 + 18) (fun _ => 0)))))))
set_option maxHeartbeats 4000000 in
set_option maxRecDepth 100000 in
theorem m_X5_init {l : Launch} {g : zL} {κ : zK} (a0 : Nat) (σ : Nat → Nat → Bool) (μ : zM) (hA : zAO g) (hSp : zSK g κ) (hk : zkd a0 = 5) {μr : zM} (h : f_X5_init a0 μ = some μr) : zMet l g yX5_init cX5_init 2 none 3 28 440 (a0 + 1) (a0 + 29) (zsw σ a0 []) (zst σ a0) [.ref (zb g + a0)] μ none μr := by
  have ha0 : a0 < 324 := zkd_lt (by omega)
  unfold f_X5_init at h
  obtain ⟨hx1, hx17, hx19, hw19, hf19, hx21, hw21, hf21, hx23, hw23, hf23, hx25, hw25, hf25, hx27, hw27, hf27⟩ := zfx_5 a0 ha0 hk
  have hz0 := zs_5_0 (zT_of hk (by decide))
  have hz1 := zs_5_1 (zT_of hk (by decide))
  have hz10 := zs_5_10 (zT_of hk (by decide))
  refine zMet.of (by decide +kernel) (Nat.le_of_ble_eq_true rfl) ?_
  intro p e s m args below meth c C0
  refine z_loc (lo1 := [(0, .ref (zb g + a0))]) rfl ?_
  refine z_aload_n C0 dX5_init_0 rfl 0 rfl ?_
  refine z_oini C0 rfl (by decide) kO_RX5_3 kO_i kO_b kO_c dX5_init_1 ?_
  refine z_aload_n C0 dX5_init_4 rfl 0 rfl ?_
  refine z_newo (σ' := zsw (zsw σ a0 []) (a0 + 1) []) C0 rfl zcl_1 hx1 kcl_RX5_9 kin_RX1 kii_RX1 zdv_1 (fun j _ _ => zsw_new _ _ _) (fun q hq => zsw_lo _ hq) (by decide) (by decide) dX5_init_5 ?_
  refine z_dup C0 dX5_init_8 rfl ?_
  obtain ⟨μ1, e1, h⟩ := zbd_of h
  refine z_callI C0 (nc := 0) (o := a0 + 1) (As := []) (rest := [.ref (zb g + (a0 + 1)), .ref (zb g + a0)]) rfl kc_X1_init.1 kc_X1_init.2.1 kc_X1_init.2.2 (by decide) ⟨by decide, by decide, by decide +kernel⟩ rfl km_RX5_11 (m_X1_init (κ := κ) (a0 + 1) (zsw σ a0 []) _  hSp hx1 e1) rfl (Nat.le_of_ble_eq_true rfl) (by decide) (by decide) (by decide) (by omega) rfl dX5_init_9 ?_
  rw [zst_zsw σ [] (by omega)]
  refine z_putr C0 (σ1 := zsw σ a0 [0]) hk (by omega) kf_5_12 zpf_5_0 rfl (fun q => ⟨rfl, rfl⟩) zr_5_0 hz0.1 (zsw_put σ a0 [] 0 _) dX5_init_12 ?_
  refine z_aload_n C0 dX5_init_15 rfl 0 rfl ?_
  refine z_iconst C0 dX5_init_16 (v := 5) rfl ?_
  refine z_newq C0 (t0 := 3) (kind := 23) (len := 5) (σ' := zsq σ a0 [0] (a0 + 16) (fun k => decide (k < 0)) a0 (fun _ => true)) rfl kcl_RX5_18 (hA s C0.2.2.2.2.2.2.2.1).2.1 rfl hz1.2.2.1 (by decide) hz1.2.2.2 (by decide) (by decide) (by decide) (by decide) (by decide) (fun j => zsq_new1 (by omega)) (fun q hq => zsq_old1 hq) dX5_init_17 ?_
  refine z_putr C0 (σ1 := zsq σ a0 [1, 0] (a0 + 16) (fun k => decide (k < 0)) a0 (fun _ => true)) hk (by omega) kf_5_20 zpf_5_1 rfl (fun q => ⟨rfl, rfl⟩) zr_5_1 hz1.1 (zsq_put σ a0 [0] 1 _ _ _ _ _) dX5_init_20 ?_
  refine z_aload_n C0 dX5_init_23 rfl 0 rfl ?_
  refine z_iconst C0 dX5_init_24 (v := -1) (by decide) ?_
  refine z_puti C0 hk (by omega) kf_5_24 zp_5_3 zr_5_3 rfl dX5_init_25 ?_
  refine z_aload_n C0 dX5_init_28 rfl 0 rfl ?_
  refine z_iconst C0 dX5_init_29 (v := 0) rfl ?_
  refine z_newA C0 (len := 0) (t0 := 0) (kind := 20) (ty := .int) rfl rfl rfl hx17.1 (by decide) hx17.2 kar_int (Or.inl rfl) (by decide) (by decide) (by decide) (by decide) (by decide) dX5_init_30 ?_
  refine z_putd C0 (b := a0 + 17) hk (by omega) kf_5_28 zp_5_4 zr_5_4 (fun q => ⟨rfl, rfl⟩) rfl (by omega) rfl dX5_init_32 ?_
  refine z_aload_n C0 dX5_init_35 rfl 0 rfl ?_
  refine z_iconst C0 dX5_init_36 (v := 3) rfl ?_
  refine z_newA C0 (len := 3) (t0 := 0) (kind := 20) (ty := .int) rfl rfl rfl hz10.2.2.1 (by decide) hz10.2.2.2 kar_int (Or.inl rfl) (by decide) (by decide) (by decide) (by decide) (by decide) dX5_init_37 ?_
  refine z_putr C0 (σ1 := zsq σ a0 [10, 1, 0] (a0 + 16) (fun k => decide (k < 0)) a0 (fun _ => true)) hk (by omega) kf_5_32 zpf_5_10 rfl (fun q => ⟨rfl, rfl⟩) zr_5_10 hz10.1 (zsq_put σ a0 [1, 0] 10 _ _ _ _ _) dX5_init_39 ?_
  refine z_iconst C0 dX5_init_42 (v := 0) rfl ?_
  refine z_istore_n (lo1 := [(1, .int 0), (0, .ref (zb g + a0))]) C0 dX5_init_43 rfl (by decide) rfl ?_
  refine z_iload_n C0 dX5_init_44 rfl 0 rfl ?_
  refine z_iconst C0 dX5_init_45 (v := 5) rfl ?_
  refine z_icmp_ge C0 72 dX5_init_46 (by decide) (fun c => absurd c (by decide : ¬ (5 : Int32) ≤ 0)) (fun _ => ?_)
  refine z_aload_n C0 dX5_init_49 rfl 1 rfl ?_
  refine z_get C0 (v := .ref (zb g + (a0 + 16))) hk (by omega) kf_5_20 (zval_ref zr_5_1 (by unfold zsq; rw [if_pos rfl]; rfl) hz1.1) dX5_init_50 ?_
  refine z_iload_n C0 dX5_init_53 rfl 0 rfl ?_
  refine z_newo (σ' := zsw (zsq σ a0 [10, 1, 0] (a0 + 16) (fun k => decide (k < 0)) a0 (fun _ => true)) (a0 + 19) []) C0 rfl zcl_6 hx19 kcl_RX5_18 kin_RX6 kii_RX6 zdv_6 (fun j _ _ => zsw_new _ _ _) (fun q hq => zsw_lo _ hq) (by decide) (by decide) dX5_init_54 ?_
  refine z_dup C0 dX5_init_57 rfl ?_
  refine z_iload_n C0 dX5_init_58 rfl 0 rfl ?_
  refine z_callS (As := [.int 0]) (rest := [.ref (zb g + (a0 + 19)), .ref (zb g + (a0 + 19)), .int 0, .ref (zb g + (a0 + 16))]) C0 rfl kc_X5_mostRows km_RX5_35 (r_X5_mostRows 0 (rv := 0) (by decide)) rfl (Nat.le_of_ble_eq_true rfl) (by decide) (by decide) (by decide) (Nat.le_refl _) rfl rfl dX5_init_59 ?_
  refine z_callI C0 (nc := 1) (o := a0 + 19) (As := [.int 0]) (rest := [.ref (zb g + (a0 + 19)), .int 0, .ref (zb g + (a0 + 16))]) rfl kc_X6_init.1 kc_X6_init.2.1 kc_X6_init.2.2 (by decide) ⟨by decide, by decide, by decide +kernel⟩ rfl km_RX5_39 (m_X6_init (a0 + 19) (zsq σ a0 [10, 1, 0] (a0 + 16) (fun k => decide (k < 0)) a0 (fun _ => true)) _ 0 (w := 0) hx19 hw19 (by decide) (by decide) (by decide)) rfl (Nat.le_of_ble_eq_true rfl) (by decide) (by decide) (by decide) (by omega) rfl dX5_init_62 ?_
  rw [zst_zsq σ [10, 1, 0] _ _ (by omega) (by omega) (by omega)]
  refine z_aast C0 (σ1 := zsq σ a0 [10, 1, 0] (a0 + 16) (fun k => decide (k < 1)) a0 (fun _ => true)) (kind := 23) (len := 5) (t0 := 3) (r := (RX6, TX6, 3)) (j := 0) ⟨by omega, hz1.2.2.1, hz1.2.2.2⟩ (by decide) rfl hx19 (by decide) (by omega) rfl (by decide) rfl hf19 (zsq_sto1 (by omega)) dX5_init_65 ?_
  refine z_iinc (lo1 := [(1, .int 1), (0, .ref (zb g + a0))]) (x := 0) (v := 1) (w := 1) C0 dX5_init_66 0 rfl rfl rfl (by decide) rfl ?_
  refine z_goto C0 44 dX5_init_69 (by decide) ?_
  refine z_iload_n C0 dX5_init_44 rfl 0 rfl ?_
  refine z_iconst C0 dX5_init_45 (v := 5) rfl ?_
  refine z_icmp_ge C0 72 dX5_init_46 (by decide) (fun c => absurd c (by decide : ¬ (5 : Int32) ≤ 1)) (fun _ => ?_)
  refine z_aload_n C0 dX5_init_49 rfl 1 rfl ?_
  refine z_get C0 (v := .ref (zb g + (a0 + 16))) hk (by omega) kf_5_20 (zval_ref zr_5_1 (by unfold zsq; rw [if_pos rfl]; rfl) hz1.1) dX5_init_50 ?_
  refine z_iload_n C0 dX5_init_53 rfl 0 rfl ?_
  refine z_newo (σ' := zsw (zsq σ a0 [10, 1, 0] (a0 + 16) (fun k => decide (k < 1)) a0 (fun _ => true)) (a0 + 21) []) C0 rfl zcl_6 hx21 kcl_RX5_18 kin_RX6 kii_RX6 zdv_6 (fun j _ _ => zsw_new _ _ _) (fun q hq => zsw_lo _ hq) (by decide) (by decide) dX5_init_54 ?_
  refine z_dup C0 dX5_init_57 rfl ?_
  refine z_iload_n C0 dX5_init_58 rfl 0 rfl ?_
  refine z_callS (As := [.int 1]) (rest := [.ref (zb g + (a0 + 21)), .ref (zb g + (a0 + 21)), .int 1, .ref (zb g + (a0 + 16))]) C0 rfl kc_X5_mostRows km_RX5_35 (r_X5_mostRows 1 (rv := 40) (by decide)) rfl (Nat.le_of_ble_eq_true rfl) (by decide) (by decide) (by decide) (Nat.le_refl _) rfl rfl dX5_init_59 ?_
  refine z_callI C0 (nc := 1) (o := a0 + 21) (As := [.int 40]) (rest := [.ref (zb g + (a0 + 21)), .int 1, .ref (zb g + (a0 + 16))]) rfl kc_X6_init.1 kc_X6_init.2.1 kc_X6_init.2.2 (by decide) ⟨by decide, by decide, by decide +kernel⟩ rfl km_RX5_39 (m_X6_init (a0 + 21) (zsq σ a0 [10, 1, 0] (a0 + 16) (fun k => decide (k < 1)) a0 (fun _ => true)) _ 40 (w := 120) hx21 hw21 (by decide) (by decide) (by decide)) rfl (Nat.le_of_ble_eq_true rfl) (by decide) (by decide) (by decide) (by omega) rfl dX5_init_62 ?_
  rw [zst_zsq σ [10, 1, 0] _ _ (by omega) (by omega) (by omega)]
  refine z_aast C0 (σ1 := zsq σ a0 [10, 1, 0] (a0 + 16) (fun k => decide (k < 2)) a0 (fun _ => true)) (kind := 23) (len := 5) (t0 := 3) (r := (RX6, TX6, 3)) (j := 1) ⟨by omega, hz1.2.2.1, hz1.2.2.2⟩ (by decide) rfl hx21 (by decide) (by omega) rfl (by decide) rfl hf21 (zsq_sto1 (by omega)) dX5_init_65 ?_
  refine z_iinc (lo1 := [(1, .int 2), (0, .ref (zb g + a0))]) (x := 1) (v := 2) (w := 1) C0 dX5_init_66 0 rfl rfl rfl (by decide) rfl ?_
  refine z_goto C0 44 dX5_init_69 (by decide) ?_
  refine z_iload_n C0 dX5_init_44 rfl 0 rfl ?_
  refine z_iconst C0 dX5_init_45 (v := 5) rfl ?_
  refine z_icmp_ge C0 72 dX5_init_46 (by decide) (fun c => absurd c (by decide : ¬ (5 : Int32) ≤ 2)) (fun _ => ?_)
  refine z_aload_n C0 dX5_init_49 rfl 1 rfl ?_
  refine z_get C0 (v := .ref (zb g + (a0 + 16))) hk (by omega) kf_5_20 (zval_ref zr_5_1 (by unfold zsq; rw [if_pos rfl]; rfl) hz1.1) dX5_init_50 ?_
  refine z_iload_n C0 dX5_init_53 rfl 0 rfl ?_
  refine z_newo (σ' := zsw (zsq σ a0 [10, 1, 0] (a0 + 16) (fun k => decide (k < 2)) a0 (fun _ => true)) (a0 + 23) []) C0 rfl zcl_6 hx23 kcl_RX5_18 kin_RX6 kii_RX6 zdv_6 (fun j _ _ => zsw_new _ _ _) (fun q hq => zsw_lo _ hq) (by decide) (by decide) dX5_init_54 ?_
  refine z_dup C0 dX5_init_57 rfl ?_
  refine z_iload_n C0 dX5_init_58 rfl 0 rfl ?_
  refine z_callS (As := [.int 2]) (rest := [.ref (zb g + (a0 + 23)), .ref (zb g + (a0 + 23)), .int 2, .ref (zb g + (a0 + 16))]) C0 rfl kc_X5_mostRows km_RX5_35 (r_X5_mostRows 2 (rv := 8) (by decide)) rfl (Nat.le_of_ble_eq_true rfl) (by decide) (by decide) (by decide) (Nat.le_refl _) rfl rfl dX5_init_59 ?_
  refine z_callI C0 (nc := 1) (o := a0 + 23) (As := [.int 8]) (rest := [.ref (zb g + (a0 + 23)), .int 2, .ref (zb g + (a0 + 16))]) rfl kc_X6_init.1 kc_X6_init.2.1 kc_X6_init.2.2 (by decide) ⟨by decide, by decide, by decide +kernel⟩ rfl km_RX5_39 (m_X6_init (a0 + 23) (zsq σ a0 [10, 1, 0] (a0 + 16) (fun k => decide (k < 2)) a0 (fun _ => true)) _ 8 (w := 24) hx23 hw23 (by decide) (by decide) (by decide)) rfl (Nat.le_of_ble_eq_true rfl) (by decide) (by decide) (by decide) (by omega) rfl dX5_init_62 ?_
  rw [zst_zsq σ [10, 1, 0] _ _ (by omega) (by omega) (by omega)]
  refine z_aast C0 (σ1 := zsq σ a0 [10, 1, 0] (a0 + 16) (fun k => decide (k < 3)) a0 (fun _ => true)) (kind := 23) (len := 5) (t0 := 3) (r := (RX6, TX6, 3)) (j := 2) ⟨by omega, hz1.2.2.1, hz1.2.2.2⟩ (by decide) rfl hx23 (by decide) (by omega) rfl (by decide) rfl hf23 (zsq_sto1 (by omega)) dX5_init_65 ?_
  refine z_iinc (lo1 := [(1, .int 3), (0, .ref (zb g + a0))]) (x := 2) (v := 3) (w := 1) C0 dX5_init_66 0 rfl rfl rfl (by decide) rfl ?_
  refine z_goto C0 44 dX5_init_69 (by decide) ?_
  refine z_iload_n C0 dX5_init_44 rfl 0 rfl ?_
  refine z_iconst C0 dX5_init_45 (v := 5) rfl ?_
  refine z_icmp_ge C0 72 dX5_init_46 (by decide) (fun c => absurd c (by decide : ¬ (5 : Int32) ≤ 3)) (fun _ => ?_)
  refine z_aload_n C0 dX5_init_49 rfl 1 rfl ?_
  refine z_get C0 (v := .ref (zb g + (a0 + 16))) hk (by omega) kf_5_20 (zval_ref zr_5_1 (by unfold zsq; rw [if_pos rfl]; rfl) hz1.1) dX5_init_50 ?_
  refine z_iload_n C0 dX5_init_53 rfl 0 rfl ?_
  refine z_newo (σ' := zsw (zsq σ a0 [10, 1, 0] (a0 + 16) (fun k => decide (k < 3)) a0 (fun _ => true)) (a0 + 25) []) C0 rfl zcl_6 hx25 kcl_RX5_18 kin_RX6 kii_RX6 zdv_6 (fun j _ _ => zsw_new _ _ _) (fun q hq => zsw_lo _ hq) (by decide) (by decide) dX5_init_54 ?_
  refine z_dup C0 dX5_init_57 rfl ?_
  refine z_iload_n C0 dX5_init_58 rfl 0 rfl ?_
  refine z_callS (As := [.int 3]) (rest := [.ref (zb g + (a0 + 25)), .ref (zb g + (a0 + 25)), .int 3, .ref (zb g + (a0 + 16))]) C0 rfl kc_X5_mostRows km_RX5_35 (r_X5_mostRows 3 (rv := 8) (by decide)) rfl (Nat.le_of_ble_eq_true rfl) (by decide) (by decide) (by decide) (Nat.le_refl _) rfl rfl dX5_init_59 ?_
  refine z_callI C0 (nc := 1) (o := a0 + 25) (As := [.int 8]) (rest := [.ref (zb g + (a0 + 25)), .int 3, .ref (zb g + (a0 + 16))]) rfl kc_X6_init.1 kc_X6_init.2.1 kc_X6_init.2.2 (by decide) ⟨by decide, by decide, by decide +kernel⟩ rfl km_RX5_39 (m_X6_init (a0 + 25) (zsq σ a0 [10, 1, 0] (a0 + 16) (fun k => decide (k < 3)) a0 (fun _ => true)) _ 8 (w := 24) hx25 hw25 (by decide) (by decide) (by decide)) rfl (Nat.le_of_ble_eq_true rfl) (by decide) (by decide) (by decide) (by omega) rfl dX5_init_62 ?_
  rw [zst_zsq σ [10, 1, 0] _ _ (by omega) (by omega) (by omega)]
  refine z_aast C0 (σ1 := zsq σ a0 [10, 1, 0] (a0 + 16) (fun k => decide (k < 4)) a0 (fun _ => true)) (kind := 23) (len := 5) (t0 := 3) (r := (RX6, TX6, 3)) (j := 3) ⟨by omega, hz1.2.2.1, hz1.2.2.2⟩ (by decide) rfl hx25 (by decide) (by omega) rfl (by decide) rfl hf25 (zsq_sto1 (by omega)) dX5_init_65 ?_
  refine z_iinc (lo1 := [(1, .int 4), (0, .ref (zb g + a0))]) (x := 3) (v := 4) (w := 1) C0 dX5_init_66 0 rfl rfl rfl (by decide) rfl ?_
  refine z_goto C0 44 dX5_init_69 (by decide) ?_
  refine z_iload_n C0 dX5_init_44 rfl 0 rfl ?_
  refine z_iconst C0 dX5_init_45 (v := 5) rfl ?_
  refine z_icmp_ge C0 72 dX5_init_46 (by decide) (fun c => absurd c (by decide : ¬ (5 : Int32) ≤ 4)) (fun _ => ?_)
  refine z_aload_n C0 dX5_init_49 rfl 1 rfl ?_
  refine z_get C0 (v := .ref (zb g + (a0 + 16))) hk (by omega) kf_5_20 (zval_ref zr_5_1 (by unfold zsq; rw [if_pos rfl]; rfl) hz1.1) dX5_init_50 ?_
  refine z_iload_n C0 dX5_init_53 rfl 0 rfl ?_
  refine z_newo (σ' := zsw (zsq σ a0 [10, 1, 0] (a0 + 16) (fun k => decide (k < 4)) a0 (fun _ => true)) (a0 + 27) []) C0 rfl zcl_6 hx27 kcl_RX5_18 kin_RX6 kii_RX6 zdv_6 (fun j _ _ => zsw_new _ _ _) (fun q hq => zsw_lo _ hq) (by decide) (by decide) dX5_init_54 ?_
  refine z_dup C0 dX5_init_57 rfl ?_
  refine z_iload_n C0 dX5_init_58 rfl 0 rfl ?_
  refine z_callS (As := [.int 4]) (rest := [.ref (zb g + (a0 + 27)), .ref (zb g + (a0 + 27)), .int 4, .ref (zb g + (a0 + 16))]) C0 rfl kc_X5_mostRows km_RX5_35 (r_X5_mostRows 4 (rv := 8) (by decide)) rfl (Nat.le_of_ble_eq_true rfl) (by decide) (by decide) (by decide) (Nat.le_refl _) rfl rfl dX5_init_59 ?_
  refine z_callI C0 (nc := 1) (o := a0 + 27) (As := [.int 8]) (rest := [.ref (zb g + (a0 + 27)), .int 4, .ref (zb g + (a0 + 16))]) rfl kc_X6_init.1 kc_X6_init.2.1 kc_X6_init.2.2 (by decide) ⟨by decide, by decide, by decide +kernel⟩ rfl km_RX5_39 (m_X6_init (a0 + 27) (zsq σ a0 [10, 1, 0] (a0 + 16) (fun k => decide (k < 4)) a0 (fun _ => true)) _ 8 (w := 24) hx27 hw27 (by decide) (by decide) (by decide)) rfl (Nat.le_of_ble_eq_true rfl) (by decide) (by decide) (by decide) (by omega) rfl dX5_init_62 ?_
  rw [zst_zsq σ [10, 1, 0] _ _ (by omega) (by omega) (by omega)]
  refine z_aast C0 (σ1 := zsq σ a0 [10, 1, 0] (a0 + 16) (fun k => decide (k < 5)) a0 (fun _ => true)) (kind := 23) (len := 5) (t0 := 3) (r := (RX6, TX6, 3)) (j := 4) ⟨by omega, hz1.2.2.1, hz1.2.2.2⟩ (by decide) rfl hx27 (by decide) (by omega) rfl (by decide) rfl hf27 (zsq_sto1 (by omega)) dX5_init_65 ?_
  refine z_iinc (lo1 := [(1, .int 5), (0, .ref (zb g + a0))]) (x := 4) (v := 5) (w := 1) C0 dX5_init_66 0 rfl rfl rfl (by decide) rfl ?_
  refine z_goto C0 44 dX5_init_69 (by decide) ?_
  refine z_iload_n C0 dX5_init_44 rfl 0 rfl ?_
  refine z_iconst C0 dX5_init_45 (v := 5) rfl ?_
  refine z_icmp_ge C0 72 dX5_init_46 (by decide) (fun _ => ?_) (fun c => absurd (by decide : (5 : Int32) ≤ 5) c)
  refine z_sigA (zsq_end (ks := [10, 1, 0]) hk (by decide) (by decide +kernel) ⟨by omega, Or.inr rfl⟩ (by have := hz1.2.2.1; omega) (Or.inr rfl) (fun k h => decide_eq_true (by have := hz1.2.2.2; omega)) (fun _ _ => rfl)) ?_
  obtain rfl := Option.some.inj h
  exact z_vret C0 rfl dX5_init_72
theorem zfx_11 : ∀ a, a < zNN → zkd a = 11 → zkd (a + 1) = 8 ∧ zkd (a + 58) = 5 ∧ zkd (a + 87) = 4 ∧ zkd (a + 90) = 4 ∧ zkd (a + 93) = 0 ∧ zkd (a + 104) = 3 ∧ zkd (a + 106) = 9 ∧ zkd (a + 111) = 7 ∧ zkd (a + 132) = 2 ∧ zkd (a + 145) = 8 ∧ zkd (a + 200) = 8 ∧ zkd (a + 255) = 8 ∧ zFX (a + 56) 0 = a + 145 ∧ zFX (a + 56) 1 = a + 200 ∧ zFX (a + 56) 2 = a + 255 ∧ zFX (a + 1 + 3) 0 = a + 6 := by decide +kernel
def f_X11_init (a0 : Nat) (μ : zM) : Option zM :=
  zbd (f_X8_init (a0 + 1) (znew μ (a0 + 1) 8)) fun μ1 =>
  zbd (f_X5_init (a0 + 58) (znew (zupr μ1 (a0 + 57) (fun _ => 0)) (a0 + 58) 5)) fun μ2 =>
  zbd (f_X8_init (a0 + 145) (znew (i_X2 (a0 + 132) (znew (i_X7 (a0 + 111) (znew (i_X9 (a0 + 106) (znew (i_X3 (a0 + 104) (znew (i_X0 (a0 + 93) (a0 + 6) (znew (i_X4 (a0 + 90) (a0 + 6) (znew (i_X4 (a0 + 87) (a0 + 6) (znew μ2 (a0 + 87) 4)) (a0 + 90) 4)) (a0 + 93) 0)) (a0 + 104) 3)) (a0 + 106) 9)) (a0 + 111) 7)) (a0 + 132) 2)) (a0 + 145) 8)) fun μ3 =>
  zbd (f_X8_init (a0 + 200) (znew μ3 (a0 + 200) 8)) fun μ4 =>
  zbd (f_X8_init (a0 + 255) (znew μ4 (a0 + 255) 8)) fun μ5 =>
  some μ5
set_option maxHeartbeats 4000000 in
set_option maxRecDepth 100000 in
theorem m_X11_init {l : Launch} {g : zL} {κ : zK} (a0 : Nat) (σ : Nat → Nat → Bool) (μ : zM) (hA : zAO g) (hSp : zSK g κ) (hk : zkd a0 = 11) {μr : zM} (h : f_X11_init a0 μ = some μr) : zMet l g yX11_init cX11_init 2 none 4 309 13664 (a0 + 1) (a0 + 310) (zsw σ a0 []) (zst σ a0) [.ref (zb g + a0)] μ none μr := by
  have ha0 : a0 < 324 := zkd_lt (by omega)
  unfold f_X11_init at h
  obtain ⟨hx1, hx58, hx87, hx90, hx93, hx104, hx106, hx111, hx132, hx145, hx200, hx255, hf145, hf200, hf255, hf6⟩ := zfx_11 a0 ha0 hk
  have hz0 := zs_11_0 (zT_of hk (by decide))
  have hz1 := zs_11_1 (zT_of hk (by decide))
  have hz2 := zs_11_2 (zT_of hk (by decide))
  have hz3 := zs_11_3 (zT_of hk (by decide))
  have hz4 := zs_11_4 (zT_of hk (by decide))
  have hz5 := zs_11_5 (zT_of hk (by decide))
  have hz6 := zs_11_6 (zT_of hk (by decide))
  have hz7 := zs_11_7 (zT_of hk (by decide))
  have hz8 := zs_11_8 (zT_of hk (by decide))
  have hz9 := zs_11_9 (zT_of hk (by decide))
  have hz10 := zs_11_10 (zT_of hk (by decide))
  refine zMet.of (by decide +kernel) (Nat.le_of_ble_eq_true rfl) ?_
  intro p e s m args below meth c C0
  refine z_loc (lo1 := [(0, .ref (zb g + a0))]) rfl ?_
  refine z_aload_n C0 dX11_init_0 rfl 0 rfl ?_
  refine z_oini C0 rfl (by decide) kO_RX11_1 kO_i kO_b kO_c dX11_init_1 ?_
  refine z_aload_n C0 dX11_init_4 rfl 0 rfl ?_
  refine z_newo (σ' := zsw (zsw σ a0 []) (a0 + 1) []) C0 rfl zcl_8 hx1 kcl_RX11_7 kin_RX8 kii_RX8 zdv_8 (fun j _ _ => zsw_new _ _ _) (fun q hq => zsw_lo _ hq) (by decide) (by decide) dX11_init_5 ?_
  refine z_dup C0 dX11_init_8 rfl ?_
  obtain ⟨μ1, e1, h⟩ := zbd_of h
  refine z_callI C0 (nc := 0) (o := a0 + 1) (As := []) (rest := [.ref (zb g + (a0 + 1)), .ref (zb g + a0)]) rfl kc_X8_init.1 kc_X8_init.2.1 kc_X8_init.2.2 (by decide) ⟨by decide, by decide, by decide +kernel⟩ rfl km_RX11_9 (m_X8_init (κ := κ) (a0 + 1) (zsw σ a0 []) _ hA hSp hx1 e1) rfl (Nat.le_of_ble_eq_true rfl) (by decide) (by decide) (by decide) (by omega) rfl dX11_init_9 ?_
  rw [zst_zsw σ [] (by omega)]
  refine z_putr C0 (σ1 := zsw σ a0 [0]) hk (by omega) kf_11_10 zpf_11_0 rfl (fun q => ⟨rfl, rfl⟩) zr_11_0 hz0.1 (zsw_put σ a0 [] 0 _) dX11_init_12 ?_
  refine z_aload_n C0 dX11_init_15 rfl 0 rfl ?_
  refine z_iconst C0 dX11_init_16 (v := 3) rfl ?_
  refine z_newq C0 (t0 := 4) (kind := 24) (len := 3) (σ' := zsq σ a0 [0] (a0 + 56) (fun k => decide (k < 0)) a0 (fun _ => true)) rfl kcl_RX11_7 (hA s C0.2.2.2.2.2.2.2.1).2.2.1 rfl hz1.2.2.1 (by decide) hz1.2.2.2 (by decide) (by decide) (by decide) (by decide) (by decide) (fun j => zsq_new1 (by omega)) (fun q hq => zsq_old1 hq) dX11_init_17 ?_
  refine z_putr C0 (σ1 := zsq σ a0 [1, 0] (a0 + 56) (fun k => decide (k < 0)) a0 (fun _ => true)) hk (by omega) kf_11_16 zpf_11_1 rfl (fun q => ⟨rfl, rfl⟩) zr_11_1 hz1.1 (zsq_put σ a0 [0] 1 _ _ _ _ _) dX11_init_20 ?_
  refine z_aload_n C0 dX11_init_23 rfl 0 rfl ?_
  refine z_iconst C0 dX11_init_24 (v := 3) rfl ?_
  refine z_newA C0 (len := 3) (t0 := 1) (kind := 21) (ty := .boolean) rfl rfl rfl hz2.2.2.1 (by decide) hz2.2.2.2 kar_boolean (Or.inr rfl) (by decide) (by decide) (by decide) (by decide) (by decide) dX11_init_25 ?_
  refine z_putr C0 (σ1 := zsq σ a0 [2, 1, 0] (a0 + 56) (fun k => decide (k < 0)) a0 (fun _ => true)) hk (by omega) kf_11_20 zpf_11_2 rfl (fun q => ⟨rfl, rfl⟩) zr_11_2 hz2.1 (zsq_put σ a0 [1, 0] 2 _ _ _ _ _) dX11_init_27 ?_
  refine z_aload_n C0 dX11_init_30 rfl 0 rfl ?_
  refine z_newo (σ' := zsw (zsq σ a0 [2, 1, 0] (a0 + 56) (fun k => decide (k < 0)) a0 (fun _ => true)) (a0 + 58) []) C0 rfl zcl_5 hx58 kcl_RX11_24 kin_RX5 kii_RX5 zdv_5 (fun j _ _ => zsw_new _ _ _) (fun q hq => zsw_lo _ hq) (by decide) (by decide) dX11_init_31 ?_
  refine z_dup C0 dX11_init_34 rfl ?_
  obtain ⟨μ2, e2, h⟩ := zbd_of h
  refine z_callI C0 (nc := 0) (o := a0 + 58) (As := []) (rest := [.ref (zb g + (a0 + 58)), .ref (zb g + a0)]) rfl kc_X5_init.1 kc_X5_init.2.1 kc_X5_init.2.2 (by decide) ⟨by decide, by decide, by decide +kernel⟩ rfl km_RX11_26 (m_X5_init (κ := κ) (a0 + 58) (zsq σ a0 [2, 1, 0] (a0 + 56) (fun k => decide (k < 0)) a0 (fun _ => true)) _ hA hSp hx58 e2) rfl (Nat.le_of_ble_eq_true rfl) (by decide) (by decide) (by decide) (by omega) rfl dX11_init_35 ?_
  rw [zst_zsq σ [2, 1, 0] _ _ (by omega) (by omega) (by omega)]
  refine z_putr C0 (σ1 := zsq σ a0 [3, 2, 1, 0] (a0 + 56) (fun k => decide (k < 0)) a0 (fun _ => true)) hk (by omega) kf_11_27 zpf_11_3 rfl (fun q => ⟨rfl, rfl⟩) zr_11_3 hz3.1 (zsq_put σ a0 [2, 1, 0] 3 _ _ _ _ _) dX11_init_38 ?_
  refine z_aload_n C0 dX11_init_41 rfl 0 rfl ?_
  refine z_newo (σ' := zsw (zsq σ a0 [3, 2, 1, 0] (a0 + 56) (fun k => decide (k < 0)) a0 (fun _ => true)) (a0 + 87) []) C0 rfl zcl_4 hx87 kcl_RX11_31 kin_RX4 kii_RX4 zdv_4 (fun j _ _ => zsw_new _ _ _) (fun q hq => zsw_lo _ hq) (by decide) (by decide) dX11_init_42 ?_
  refine z_dup C0 dX11_init_45 rfl ?_
  refine z_aload_n C0 dX11_init_46 rfl 0 rfl ?_
  refine z_get C0 (v := .ref (zb g + (a0 + 1))) hk (by omega) kf_11_10 (zval_ref zr_11_0 (by unfold zsq; rw [if_pos rfl]; rfl) hz0.1) dX11_init_47 ?_
  have hT1 : zT (a0 + 88) (zsw (zsq σ a0 [3, 2, 1, 0] (a0 + 56) (fun k => decide (k < 0)) a0 (fun _ => true)) (a0 + 87) []) (a0 + 1) 8 := ⟨hx1, by show a0 + 1 + 55 ≤ _; omega, by omega, fun o k h1 h2 => by
      have h2 : o < a0 + 1 + 55 := h2
      unfold zsw zsq
      split
      · omega
      · split
        · omega
        · rw [if_neg (by omega), if_neg (by omega), if_neg (by omega), if_pos (by omega)]⟩
  refine z_getr C0 hT1 kf_11_33 zr_8_5 (by decide) (zs_8_5 hT1).1 dX11_init_50 ?_
  refine z_iconst C0 dX11_init_53 (v := 0) rfl ?_
  refine z_aald (kd := 22) (x := a0 + 6) C0 (zs_8_5 hT1).2 (by decide) (by decide) (by decide) (hT1.2.2.2 _ _ (by omega) (by show _ < a0 + 1 + 55; omega)) hf6 dX11_init_54 ?_
  clear hT1
  refine z_callI C0 (nc := 1) (o := a0 + 87) (As := [.ref (zb g + (a0 + 6))]) (rest := [.ref (zb g + (a0 + 87)), .ref (zb g + a0)]) rfl kc_X4_init.1 kc_X4_init.2.1 kc_X4_init.2.2 (by decide) ⟨by decide, by decide, by decide +kernel⟩ rfl km_RX11_37 (m_X4_init (a0 + 87) (a0 + 6) (zsq σ a0 [3, 2, 1, 0] (a0 + 56) (fun k => decide (k < 0)) a0 (fun _ => true)) _ (by omega) hx87) rfl (Nat.le_of_ble_eq_true rfl) (by decide) (by decide) (by decide) (by omega) rfl dX11_init_55 ?_
  rw [zst_zsq σ [3, 2, 1, 0] _ _ (by omega) (by omega) (by omega)]
  refine z_putr C0 (σ1 := zsq σ a0 [4, 3, 2, 1, 0] (a0 + 56) (fun k => decide (k < 0)) a0 (fun _ => true)) hk (by omega) kf_11_40 zpf_11_4 rfl (fun q => ⟨rfl, rfl⟩) zr_11_4 hz4.1 (zsq_put σ a0 [3, 2, 1, 0] 4 _ _ _ _ _) dX11_init_58 ?_
  refine z_aload_n C0 dX11_init_61 rfl 0 rfl ?_
  refine z_newo (σ' := zsw (zsq σ a0 [4, 3, 2, 1, 0] (a0 + 56) (fun k => decide (k < 0)) a0 (fun _ => true)) (a0 + 90) []) C0 rfl zcl_4 hx90 kcl_RX11_31 kin_RX4 kii_RX4 zdv_4 (fun j _ _ => zsw_new _ _ _) (fun q hq => zsw_lo _ hq) (by decide) (by decide) dX11_init_62 ?_
  refine z_dup C0 dX11_init_65 rfl ?_
  refine z_aload_n C0 dX11_init_66 rfl 0 rfl ?_
  refine z_get C0 (v := .ref (zb g + (a0 + 1))) hk (by omega) kf_11_10 (zval_ref zr_11_0 (by unfold zsq; rw [if_pos rfl]; rfl) hz0.1) dX11_init_67 ?_
  have hT1 : zT (a0 + 91) (zsw (zsq σ a0 [4, 3, 2, 1, 0] (a0 + 56) (fun k => decide (k < 0)) a0 (fun _ => true)) (a0 + 90) []) (a0 + 1) 8 := ⟨hx1, by show a0 + 1 + 55 ≤ _; omega, by omega, fun o k h1 h2 => by
      have h2 : o < a0 + 1 + 55 := h2
      unfold zsw zsq
      split
      · omega
      · split
        · omega
        · rw [if_neg (by omega), if_neg (by omega), if_neg (by omega), if_pos (by omega)]⟩
  refine z_getr C0 hT1 kf_11_33 zr_8_5 (by decide) (zs_8_5 hT1).1 dX11_init_70 ?_
  refine z_iconst C0 dX11_init_73 (v := 0) rfl ?_
  refine z_aald (kd := 22) (x := a0 + 6) C0 (zs_8_5 hT1).2 (by decide) (by decide) (by decide) (hT1.2.2.2 _ _ (by omega) (by show _ < a0 + 1 + 55; omega)) hf6 dX11_init_74 ?_
  clear hT1
  refine z_callI C0 (nc := 1) (o := a0 + 90) (As := [.ref (zb g + (a0 + 6))]) (rest := [.ref (zb g + (a0 + 90)), .ref (zb g + a0)]) rfl kc_X4_init.1 kc_X4_init.2.1 kc_X4_init.2.2 (by decide) ⟨by decide, by decide, by decide +kernel⟩ rfl km_RX11_37 (m_X4_init (a0 + 90) (a0 + 6) (zsq σ a0 [4, 3, 2, 1, 0] (a0 + 56) (fun k => decide (k < 0)) a0 (fun _ => true)) _ (by omega) hx90) rfl (Nat.le_of_ble_eq_true rfl) (by decide) (by decide) (by decide) (by omega) rfl dX11_init_75 ?_
  rw [zst_zsq σ [4, 3, 2, 1, 0] _ _ (by omega) (by omega) (by omega)]
  refine z_putr C0 (σ1 := zsq σ a0 [5, 4, 3, 2, 1, 0] (a0 + 56) (fun k => decide (k < 0)) a0 (fun _ => true)) hk (by omega) kf_11_44 zpf_11_5 rfl (fun q => ⟨rfl, rfl⟩) zr_11_5 hz5.1 (zsq_put σ a0 [4, 3, 2, 1, 0] 5 _ _ _ _ _) dX11_init_78 ?_
  refine z_aload_n C0 dX11_init_81 rfl 0 rfl ?_
  refine z_newo (σ' := zsw (zsq σ a0 [5, 4, 3, 2, 1, 0] (a0 + 56) (fun k => decide (k < 0)) a0 (fun _ => true)) (a0 + 93) []) C0 rfl zcl_0 hx93 kcl_RX11_47 kin_RX0 kii_RX0 zdv_0 (fun j _ _ => zsw_new _ _ _) (fun q hq => zsw_lo _ hq) (by decide) (by decide) dX11_init_82 ?_
  refine z_dup C0 dX11_init_85 rfl ?_
  refine z_aload_n C0 dX11_init_86 rfl 0 rfl ?_
  refine z_get C0 (v := .ref (zb g + (a0 + 1))) hk (by omega) kf_11_10 (zval_ref zr_11_0 (by unfold zsq; rw [if_pos rfl]; rfl) hz0.1) dX11_init_87 ?_
  have hT1 : zT (a0 + 94) (zsw (zsq σ a0 [5, 4, 3, 2, 1, 0] (a0 + 56) (fun k => decide (k < 0)) a0 (fun _ => true)) (a0 + 93) []) (a0 + 1) 8 := ⟨hx1, by show a0 + 1 + 55 ≤ _; omega, by omega, fun o k h1 h2 => by
      have h2 : o < a0 + 1 + 55 := h2
      unfold zsw zsq
      split
      · omega
      · split
        · omega
        · rw [if_neg (by omega), if_neg (by omega), if_neg (by omega), if_pos (by omega)]⟩
  refine z_getr C0 hT1 kf_11_33 zr_8_5 (by decide) (zs_8_5 hT1).1 dX11_init_90 ?_
  refine z_iconst C0 dX11_init_93 (v := 0) rfl ?_
  refine z_aald (kd := 22) (x := a0 + 6) C0 (zs_8_5 hT1).2 (by decide) (by decide) (by decide) (hT1.2.2.2 _ _ (by omega) (by show _ < a0 + 1 + 55; omega)) hf6 dX11_init_94 ?_
  clear hT1
  refine z_callI C0 (nc := 1) (o := a0 + 93) (As := [.ref (zb g + (a0 + 6))]) (rest := [.ref (zb g + (a0 + 93)), .ref (zb g + a0)]) rfl kc_X0_init.1 kc_X0_init.2.1 kc_X0_init.2.2 (by decide) ⟨by decide, by decide, by decide +kernel⟩ rfl km_RX11_49 (m_X0_init (a0 + 93) (a0 + 6) (zsq σ a0 [5, 4, 3, 2, 1, 0] (a0 + 56) (fun k => decide (k < 0)) a0 (fun _ => true)) _ (by omega) hx93) rfl (Nat.le_of_ble_eq_true rfl) (by decide) (by decide) (by decide) (by omega) rfl dX11_init_95 ?_
  rw [zst_zsq σ [5, 4, 3, 2, 1, 0] _ _ (by omega) (by omega) (by omega)]
  refine z_putr C0 (σ1 := zsq σ a0 [6, 5, 4, 3, 2, 1, 0] (a0 + 56) (fun k => decide (k < 0)) a0 (fun _ => true)) hk (by omega) kf_11_50 zpf_11_6 rfl (fun q => ⟨rfl, rfl⟩) zr_11_6 hz6.1 (zsq_put σ a0 [5, 4, 3, 2, 1, 0] 6 _ _ _ _ _) dX11_init_98 ?_
  refine z_aload_n C0 dX11_init_101 rfl 0 rfl ?_
  refine z_newo (σ' := zsw (zsq σ a0 [6, 5, 4, 3, 2, 1, 0] (a0 + 56) (fun k => decide (k < 0)) a0 (fun _ => true)) (a0 + 104) []) C0 rfl zcl_3 hx104 kcl_RX11_54 kin_RX3 kii_RX3 zdv_3 (fun j _ _ => zsw_new _ _ _) (fun q hq => zsw_lo _ hq) (by decide) (by decide) dX11_init_102 ?_
  refine z_dup C0 dX11_init_105 rfl ?_
  refine z_callINw (host := "GraveRegatta") C0 (nc := 0) (o := a0 + 104) (As := []) (rest := [.ref (zb g + (a0 + 104)), .ref (zb g + a0)]) rfl kc_X3_init.1 kc_X3_init.2.1 kc_X3_init.2.2 (by decide) ⟨by decide, by decide, by decide +kernel⟩ rfl ((hSp.at C0).2.2.2.2.2.2.2.1 (RX11, 56, yX3_init) (by decide)) (m_X3_init (a0 + 104) (zsq σ a0 [6, 5, 4, 3, 2, 1, 0] (a0 + 56) (fun k => decide (k < 0)) a0 (fun _ => true)) _ hx104) rfl (Nat.le_of_ble_eq_true rfl) (by decide) (by decide) (by decide) (by omega) rfl dX11_init_106 ?_
  rw [zst_zsq σ [6, 5, 4, 3, 2, 1, 0] _ _ (by omega) (by omega) (by omega)]
  refine z_putr C0 (σ1 := zsq σ a0 [7, 6, 5, 4, 3, 2, 1, 0] (a0 + 56) (fun k => decide (k < 0)) a0 (fun _ => true)) hk (by omega) kf_11_57 zpf_11_7 rfl (fun q => ⟨rfl, rfl⟩) zr_11_7 hz7.1 (zsq_put σ a0 [6, 5, 4, 3, 2, 1, 0] 7 _ _ _ _ _) dX11_init_109 ?_
  refine z_aload_n C0 dX11_init_112 rfl 0 rfl ?_
  refine z_newo (σ' := zsw (zsq σ a0 [7, 6, 5, 4, 3, 2, 1, 0] (a0 + 56) (fun k => decide (k < 0)) a0 (fun _ => true)) (a0 + 106) []) C0 rfl zcl_9 hx106 kcl_RX11_61 kin_RX9 kii_RX9 zdv_9 (fun j _ _ => zsw_new _ _ _) (fun q hq => zsw_lo _ hq) (by decide) (by decide) dX11_init_113 ?_
  refine z_dup C0 dX11_init_116 rfl ?_
  refine z_callINw (host := "GraveRegatta") C0 (nc := 0) (o := a0 + 106) (As := []) (rest := [.ref (zb g + (a0 + 106)), .ref (zb g + a0)]) rfl kc_X9_init.1 kc_X9_init.2.1 kc_X9_init.2.2 (by decide) ⟨by decide, by decide, by decide +kernel⟩ rfl ((hSp.at C0).2.2.2.2.2.2.2.1 (RX11, 63, yX9_init) (by decide)) (m_X9_init (a0 + 106) (zsq σ a0 [7, 6, 5, 4, 3, 2, 1, 0] (a0 + 56) (fun k => decide (k < 0)) a0 (fun _ => true)) _ hx106) rfl (Nat.le_of_ble_eq_true rfl) (by decide) (by decide) (by decide) (by omega) rfl dX11_init_117 ?_
  rw [zst_zsq σ [7, 6, 5, 4, 3, 2, 1, 0] _ _ (by omega) (by omega) (by omega)]
  refine z_putr C0 (σ1 := zsq σ a0 [8, 7, 6, 5, 4, 3, 2, 1, 0] (a0 + 56) (fun k => decide (k < 0)) a0 (fun _ => true)) hk (by omega) kf_11_64 zpf_11_8 rfl (fun q => ⟨rfl, rfl⟩) zr_11_8 hz8.1 (zsq_put σ a0 [7, 6, 5, 4, 3, 2, 1, 0] 8 _ _ _ _ _) dX11_init_120 ?_
  refine z_aload_n C0 dX11_init_123 rfl 0 rfl ?_
  refine z_newo (σ' := zsw (zsq σ a0 [8, 7, 6, 5, 4, 3, 2, 1, 0] (a0 + 56) (fun k => decide (k < 0)) a0 (fun _ => true)) (a0 + 111) []) C0 rfl zcl_7 hx111 kcl_RX11_68 kin_RX7 kii_RX7 zdv_7 (fun j _ _ => zsw_new _ _ _) (fun q hq => zsw_lo _ hq) (by decide) (by decide) dX11_init_124 ?_
  refine z_dup C0 dX11_init_127 rfl ?_
  refine z_callINw (host := "GraveRegatta") C0 (nc := 0) (o := a0 + 111) (As := []) (rest := [.ref (zb g + (a0 + 111)), .ref (zb g + a0)]) rfl kc_X7_init.1 kc_X7_init.2.1 kc_X7_init.2.2 (by decide) ⟨by decide, by decide, by decide +kernel⟩ rfl ((hSp.at C0).2.2.2.2.2.2.2.1 (RX11, 70, yX7_init) (by decide)) (m_X7_init (a0 + 111) (zsq σ a0 [8, 7, 6, 5, 4, 3, 2, 1, 0] (a0 + 56) (fun k => decide (k < 0)) a0 (fun _ => true)) _ (fun U hU => (hA U hU).2.2.2) hx111) rfl (Nat.le_of_ble_eq_true rfl) (by decide) (by decide) (by decide) (by omega) rfl dX11_init_128 ?_
  rw [zst_zsq σ [8, 7, 6, 5, 4, 3, 2, 1, 0] _ _ (by omega) (by omega) (by omega)]
  refine z_putr C0 (σ1 := zsq σ a0 [9, 8, 7, 6, 5, 4, 3, 2, 1, 0] (a0 + 56) (fun k => decide (k < 0)) a0 (fun _ => true)) hk (by omega) kf_11_71 zpf_11_9 rfl (fun q => ⟨rfl, rfl⟩) zr_11_9 hz9.1 (zsq_put σ a0 [8, 7, 6, 5, 4, 3, 2, 1, 0] 9 _ _ _ _ _) dX11_init_131 ?_
  refine z_aload_n C0 dX11_init_134 rfl 0 rfl ?_
  refine z_newo (σ' := zsw (zsq σ a0 [9, 8, 7, 6, 5, 4, 3, 2, 1, 0] (a0 + 56) (fun k => decide (k < 0)) a0 (fun _ => true)) (a0 + 132) []) C0 rfl zcl_2 hx132 kcl_RX11_75 kin_RX2 kii_RX2 zdv_2 (fun j _ _ => zsw_new _ _ _) (fun q hq => zsw_lo _ hq) (by decide) (by decide) dX11_init_135 ?_
  refine z_dup C0 dX11_init_138 rfl ?_
  refine z_callINw (host := "GraveRegatta") C0 (nc := 0) (o := a0 + 132) (As := []) (rest := [.ref (zb g + (a0 + 132)), .ref (zb g + a0)]) rfl kc_X2_init.1 kc_X2_init.2.1 kc_X2_init.2.2 (by decide) ⟨by decide, by decide, by decide +kernel⟩ rfl ((hSp.at C0).2.2.2.2.2.2.2.1 (RX11, 77, yX2_init) (by decide)) (m_X2_init (a0 + 132) (zsq σ a0 [9, 8, 7, 6, 5, 4, 3, 2, 1, 0] (a0 + 56) (fun k => decide (k < 0)) a0 (fun _ => true)) _ (fun U hU => (hA U hU).2.2.2) hx132) rfl (Nat.le_of_ble_eq_true rfl) (by decide) (by decide) (by decide) (by omega) rfl dX11_init_139 ?_
  rw [zst_zsq σ [9, 8, 7, 6, 5, 4, 3, 2, 1, 0] _ _ (by omega) (by omega) (by omega)]
  refine z_putr C0 (σ1 := zsq σ a0 [10, 9, 8, 7, 6, 5, 4, 3, 2, 1, 0] (a0 + 56) (fun k => decide (k < 0)) a0 (fun _ => true)) hk (by omega) kf_11_78 zpf_11_10 rfl (fun q => ⟨rfl, rfl⟩) zr_11_10 hz10.1 (zsq_put σ a0 [9, 8, 7, 6, 5, 4, 3, 2, 1, 0] 10 _ _ _ _ _) dX11_init_142 ?_
  refine z_iconst C0 dX11_init_145 (v := 0) rfl ?_
  refine z_istore_n (lo1 := [(1, .int 0), (0, .ref (zb g + a0))]) C0 dX11_init_146 rfl (by decide) rfl ?_
  refine z_iload_n C0 dX11_init_147 rfl 0 rfl ?_
  refine z_iconst C0 dX11_init_148 (v := 3) rfl ?_
  refine z_icmp_ge C0 171 dX11_init_149 (by decide) (fun c => absurd c (by decide : ¬ (3 : Int32) ≤ 0)) (fun _ => ?_)
  refine z_aload_n C0 dX11_init_152 rfl 1 rfl ?_
  refine z_get C0 (v := .ref (zb g + (a0 + 56))) hk (by omega) kf_11_16 (zval_ref zr_11_1 (by unfold zsq; rw [if_pos rfl]; rfl) hz1.1) dX11_init_153 ?_
  refine z_iload_n C0 dX11_init_156 rfl 0 rfl ?_
  refine z_newo (σ' := zsw (zsq σ a0 [10, 9, 8, 7, 6, 5, 4, 3, 2, 1, 0] (a0 + 56) (fun k => decide (k < 0)) a0 (fun _ => true)) (a0 + 145) []) C0 rfl zcl_8 hx145 kcl_RX11_7 kin_RX8 kii_RX8 zdv_8 (fun j _ _ => zsw_new _ _ _) (fun q hq => zsw_lo _ hq) (by decide) (by decide) dX11_init_157 ?_
  refine z_dup C0 dX11_init_160 rfl ?_
  obtain ⟨μ3, e3, h⟩ := zbd_of h
  refine z_callI C0 (nc := 0) (o := a0 + 145) (As := []) (rest := [.ref (zb g + (a0 + 145)), .int 0, .ref (zb g + (a0 + 56))]) rfl kc_X8_init.1 kc_X8_init.2.1 kc_X8_init.2.2 (by decide) ⟨by decide, by decide, by decide +kernel⟩ rfl km_RX11_9 (m_X8_init (κ := κ) (a0 + 145) (zsq σ a0 [10, 9, 8, 7, 6, 5, 4, 3, 2, 1, 0] (a0 + 56) (fun k => decide (k < 0)) a0 (fun _ => true)) _ hA hSp hx145 e3) rfl (Nat.le_of_ble_eq_true rfl) (by decide) (by decide) (by decide) (by omega) rfl dX11_init_161 ?_
  rw [zst_zsq σ [10, 9, 8, 7, 6, 5, 4, 3, 2, 1, 0] _ _ (by omega) (by omega) (by omega)]
  refine z_aast C0 (σ1 := zsq σ a0 [10, 9, 8, 7, 6, 5, 4, 3, 2, 1, 0] (a0 + 56) (fun k => decide (k < 1)) a0 (fun _ => true)) (kind := 24) (len := 3) (t0 := 4) (r := (RX8, TX8, 7)) (j := 0) ⟨by omega, hz1.2.2.1, hz1.2.2.2⟩ (by decide) rfl hx145 (by decide) (by omega) rfl (by decide) rfl hf145 (zsq_sto1 (by omega)) dX11_init_164 ?_
  refine z_iinc (lo1 := [(1, .int 1), (0, .ref (zb g + a0))]) (x := 0) (v := 1) (w := 1) C0 dX11_init_165 0 rfl rfl rfl (by decide) rfl ?_
  refine z_goto C0 147 dX11_init_168 (by decide) ?_
  refine z_iload_n C0 dX11_init_147 rfl 0 rfl ?_
  refine z_iconst C0 dX11_init_148 (v := 3) rfl ?_
  refine z_icmp_ge C0 171 dX11_init_149 (by decide) (fun c => absurd c (by decide : ¬ (3 : Int32) ≤ 1)) (fun _ => ?_)
  refine z_aload_n C0 dX11_init_152 rfl 1 rfl ?_
  refine z_get C0 (v := .ref (zb g + (a0 + 56))) hk (by omega) kf_11_16 (zval_ref zr_11_1 (by unfold zsq; rw [if_pos rfl]; rfl) hz1.1) dX11_init_153 ?_
  refine z_iload_n C0 dX11_init_156 rfl 0 rfl ?_
  refine z_newo (σ' := zsw (zsq σ a0 [10, 9, 8, 7, 6, 5, 4, 3, 2, 1, 0] (a0 + 56) (fun k => decide (k < 1)) a0 (fun _ => true)) (a0 + 200) []) C0 rfl zcl_8 hx200 kcl_RX11_7 kin_RX8 kii_RX8 zdv_8 (fun j _ _ => zsw_new _ _ _) (fun q hq => zsw_lo _ hq) (by decide) (by decide) dX11_init_157 ?_
  refine z_dup C0 dX11_init_160 rfl ?_
  obtain ⟨μ4, e4, h⟩ := zbd_of h
  refine z_callI C0 (nc := 0) (o := a0 + 200) (As := []) (rest := [.ref (zb g + (a0 + 200)), .int 1, .ref (zb g + (a0 + 56))]) rfl kc_X8_init.1 kc_X8_init.2.1 kc_X8_init.2.2 (by decide) ⟨by decide, by decide, by decide +kernel⟩ rfl km_RX11_9 (m_X8_init (κ := κ) (a0 + 200) (zsq σ a0 [10, 9, 8, 7, 6, 5, 4, 3, 2, 1, 0] (a0 + 56) (fun k => decide (k < 1)) a0 (fun _ => true)) _ hA hSp hx200 e4) rfl (Nat.le_of_ble_eq_true rfl) (by decide) (by decide) (by decide) (by omega) rfl dX11_init_161 ?_
  rw [zst_zsq σ [10, 9, 8, 7, 6, 5, 4, 3, 2, 1, 0] _ _ (by omega) (by omega) (by omega)]
  refine z_aast C0 (σ1 := zsq σ a0 [10, 9, 8, 7, 6, 5, 4, 3, 2, 1, 0] (a0 + 56) (fun k => decide (k < 2)) a0 (fun _ => true)) (kind := 24) (len := 3) (t0 := 4) (r := (RX8, TX8, 7)) (j := 1) ⟨by omega, hz1.2.2.1, hz1.2.2.2⟩ (by decide) rfl hx200 (by decide) (by omega) rfl (by decide) rfl hf200 (zsq_sto1 (by omega)) dX11_init_164 ?_
  refine z_iinc (lo1 := [(1, .int 2), (0, .ref (zb g + a0))]) (x := 1) (v := 2) (w := 1) C0 dX11_init_165 0 rfl rfl rfl (by decide) rfl ?_
  refine z_goto C0 147 dX11_init_168 (by decide) ?_
  refine z_iload_n C0 dX11_init_147 rfl 0 rfl ?_
  refine z_iconst C0 dX11_init_148 (v := 3) rfl ?_
  refine z_icmp_ge C0 171 dX11_init_149 (by decide) (fun c => absurd c (by decide : ¬ (3 : Int32) ≤ 2)) (fun _ => ?_)
  refine z_aload_n C0 dX11_init_152 rfl 1 rfl ?_
  refine z_get C0 (v := .ref (zb g + (a0 + 56))) hk (by omega) kf_11_16 (zval_ref zr_11_1 (by unfold zsq; rw [if_pos rfl]; rfl) hz1.1) dX11_init_153 ?_
  refine z_iload_n C0 dX11_init_156 rfl 0 rfl ?_
  refine z_newo (σ' := zsw (zsq σ a0 [10, 9, 8, 7, 6, 5, 4, 3, 2, 1, 0] (a0 + 56) (fun k => decide (k < 2)) a0 (fun _ => true)) (a0 + 255) []) C0 rfl zcl_8 hx255 kcl_RX11_7 kin_RX8 kii_RX8 zdv_8 (fun j _ _ => zsw_new _ _ _) (fun q hq => zsw_lo _ hq) (by decide) (by decide) dX11_init_157 ?_
  refine z_dup C0 dX11_init_160 rfl ?_
  obtain ⟨μ5, e5, h⟩ := zbd_of h
  refine z_callI C0 (nc := 0) (o := a0 + 255) (As := []) (rest := [.ref (zb g + (a0 + 255)), .int 2, .ref (zb g + (a0 + 56))]) rfl kc_X8_init.1 kc_X8_init.2.1 kc_X8_init.2.2 (by decide) ⟨by decide, by decide, by decide +kernel⟩ rfl km_RX11_9 (m_X8_init (κ := κ) (a0 + 255) (zsq σ a0 [10, 9, 8, 7, 6, 5, 4, 3, 2, 1, 0] (a0 + 56) (fun k => decide (k < 2)) a0 (fun _ => true)) _ hA hSp hx255 e5) rfl (Nat.le_of_ble_eq_true rfl) (by decide) (by decide) (by decide) (by omega) rfl dX11_init_161 ?_
  rw [zst_zsq σ [10, 9, 8, 7, 6, 5, 4, 3, 2, 1, 0] _ _ (by omega) (by omega) (by omega)]
  refine z_aast C0 (σ1 := zsq σ a0 [10, 9, 8, 7, 6, 5, 4, 3, 2, 1, 0] (a0 + 56) (fun k => decide (k < 3)) a0 (fun _ => true)) (kind := 24) (len := 3) (t0 := 4) (r := (RX8, TX8, 7)) (j := 2) ⟨by omega, hz1.2.2.1, hz1.2.2.2⟩ (by decide) rfl hx255 (by decide) (by omega) rfl (by decide) rfl hf255 (zsq_sto1 (by omega)) dX11_init_164 ?_
  refine z_iinc (lo1 := [(1, .int 3), (0, .ref (zb g + a0))]) (x := 2) (v := 3) (w := 1) C0 dX11_init_165 0 rfl rfl rfl (by decide) rfl ?_
  refine z_goto C0 147 dX11_init_168 (by decide) ?_
  refine z_iload_n C0 dX11_init_147 rfl 0 rfl ?_
  refine z_iconst C0 dX11_init_148 (v := 3) rfl ?_
  refine z_icmp_ge C0 171 dX11_init_149 (by decide) (fun _ => ?_) (fun c => absurd (by decide : (3 : Int32) ≤ 3) c)
  refine z_sigA (zsq_end (ks := [10, 9, 8, 7, 6, 5, 4, 3, 2, 1, 0]) hk (by decide) (by decide +kernel) ⟨by omega, Or.inr rfl⟩ (by have := hz1.2.2.1; omega) (Or.inr rfl) (fun k h => decide_eq_true (by have := hz1.2.2.2; omega)) (fun _ _ => rfl)) ?_
  obtain rfl := Option.some.inj h
  exact z_vret C0 rfl dX11_init_171
def f_X12_init (a0 : Nat) (μ : zM) : Option zM :=
  some (zup (zupr (zupr (zupr (zupr (zupr (zupr (zupr (zupr (zupr (zupr (zupr (zupr (zupr μ (a0 + 1) (fun _ => 0)) (a0 + 2) (fun _ => 0)) (a0 + 3) (fun _ => 0)) (a0 + 4) (fun _ => 0)) (a0 + 5) (fun _ => 0)) (a0 + 6) (fun _ => 0)) (a0 + 7) (fun _ => 0)) (a0 + 8) (fun _ => 0)) (a0 + 9) (fun _ => 0)) (a0 + 10) (fun _ => 0)) (a0 + 11) (fun _ => 0)) (a0 + 12) (fun _ => 0)) (a0 + 13) (fun _ => 0)) (a0 + 1) 7 (-1))
set_option maxHeartbeats 4000000 in
set_option maxRecDepth 100000 in
theorem m_X12_init {l : Launch} {g : zL} (a0 : Nat) (σ : Nat → Nat → Bool) (μ : zM) (hk : zkd a0 = 12) {μr : zM} (h : f_X12_init a0 μ = some μr) : zMet l g yX12_init cX12_init 1 none 2 13 136769 (a0 + 1) (a0 + 14) (zsw σ a0 []) (zst σ a0) [.ref (zb g + a0)] μ none μr := by
  have ha0 : a0 < 324 := zkd_lt (by omega)
  unfold f_X12_init at h
  have hz0 := zs_12_0 (zT_of hk (by decide))
  have hz1 := zs_12_1 (zT_of hk (by decide))
  have hz9 := zs_12_9 (zT_of hk (by decide))
  have hz23 := zs_12_23 (zT_of hk (by decide))
  have hz24 := zs_12_24 (zT_of hk (by decide))
  have hz26 := zs_12_26 (zT_of hk (by decide))
  have hz27 := zs_12_27 (zT_of hk (by decide))
  have hz28 := zs_12_28 (zT_of hk (by decide))
  have hz29 := zs_12_29 (zT_of hk (by decide))
  have hz30 := zs_12_30 (zT_of hk (by decide))
  have hz31 := zs_12_31 (zT_of hk (by decide))
  have hz34 := zs_12_34 (zT_of hk (by decide))
  have hz36 := zs_12_36 (zT_of hk (by decide))
  refine zMet.of (by decide +kernel) (Nat.le_of_ble_eq_true rfl) ?_
  intro p e s m args below meth c C0
  refine z_loc (lo1 := [(0, .ref (zb g + a0))]) rfl ?_
  refine z_aload_n C0 dX12_init_0 rfl 0 rfl ?_
  refine z_oini C0 rfl (by decide) kO_RX12_1 kO_i kO_b kO_c dX12_init_1 ?_
  refine z_aload_n C0 dX12_init_4 rfl 0 rfl ?_
  refine z_sipush C0 dX12_init_5 (v := 4688) rfl ?_
  refine z_newA C0 (len := 4688) (t0 := 0) (kind := 20) (ty := .int) rfl rfl rfl hz0.2.2.1 (by decide) hz0.2.2.2 kar_int (Or.inl rfl) (by decide) (by decide) (by decide) (by decide) (by decide) dX12_init_8 ?_
  refine z_putr C0 (σ1 := zsw σ a0 [0]) hk (by omega) kf_12_7 zpf_12_0 rfl (fun q => ⟨rfl, rfl⟩) zr_12_0 hz0.1 (zsw_put σ a0 [] 0 _) dX12_init_10 ?_
  refine z_aload_n C0 dX12_init_13 rfl 0 rfl ?_
  refine z_iconst C0 dX12_init_14 (v := 3) rfl ?_
  refine z_newA C0 (len := 3) (t0 := 1) (kind := 21) (ty := .boolean) rfl rfl rfl hz1.2.2.1 (by decide) hz1.2.2.2 kar_boolean (Or.inr rfl) (by decide) (by decide) (by decide) (by decide) (by decide) dX12_init_15 ?_
  refine z_putr C0 (σ1 := zsw σ a0 [1, 0]) hk (by omega) kf_12_13 zpf_12_1 rfl (fun q => ⟨rfl, rfl⟩) zr_12_1 hz1.1 (zsw_put σ a0 [0] 1 _) dX12_init_17 ?_
  refine z_aload_n C0 dX12_init_20 rfl 0 rfl ?_
  refine z_bipush C0 dX12_init_21 (v := 121) rfl ?_
  refine z_newA C0 (len := 121) (t0 := 0) (kind := 20) (ty := .int) rfl rfl rfl hz9.2.2.1 (by decide) hz9.2.2.2 kar_int (Or.inl rfl) (by decide) (by decide) (by decide) (by decide) (by decide) dX12_init_23 ?_
  refine z_putr C0 (σ1 := zsw σ a0 [9, 1, 0]) hk (by omega) kf_12_17 zpf_12_9 rfl (fun q => ⟨rfl, rfl⟩) zr_12_9 hz9.1 (zsw_put σ a0 [1, 0] 9 _) dX12_init_25 ?_
  refine z_aload_n C0 dX12_init_28 rfl 0 rfl ?_
  refine z_iconst C0 dX12_init_29 (v := 5) rfl ?_
  refine z_newA C0 (len := 5) (t0 := 0) (kind := 20) (ty := .int) rfl rfl rfl hz23.2.2.1 (by decide) hz23.2.2.2 kar_int (Or.inl rfl) (by decide) (by decide) (by decide) (by decide) (by decide) dX12_init_30 ?_
  refine z_putr C0 (σ1 := zsw σ a0 [23, 9, 1, 0]) hk (by omega) kf_12_20 zpf_12_23 rfl (fun q => ⟨rfl, rfl⟩) zr_12_23 hz23.1 (zsw_put σ a0 [9, 1, 0] 23 _) dX12_init_32 ?_
  refine z_aload_n C0 dX12_init_35 rfl 0 rfl ?_
  refine z_bipush C0 dX12_init_36 (v := 16) rfl ?_
  refine z_newA C0 (len := 16) (t0 := 0) (kind := 20) (ty := .int) rfl rfl rfl hz24.2.2.1 (by decide) hz24.2.2.2 kar_int (Or.inl rfl) (by decide) (by decide) (by decide) (by decide) (by decide) dX12_init_38 ?_
  refine z_putr C0 (σ1 := zsw σ a0 [24, 23, 9, 1, 0]) hk (by omega) kf_12_23 zpf_12_24 rfl (fun q => ⟨rfl, rfl⟩) zr_12_24 hz24.1 (zsw_put σ a0 [23, 9, 1, 0] 24 _) dX12_init_40 ?_
  refine z_aload_n C0 dX12_init_43 rfl 0 rfl ?_
  refine z_sipush C0 dX12_init_44 (v := 32761) rfl ?_
  refine z_newA C0 (len := 32761) (t0 := 0) (kind := 20) (ty := .int) rfl rfl rfl hz26.2.2.1 (by decide) hz26.2.2.2 kar_int (Or.inl rfl) (by decide) (by decide) (by decide) (by decide) (by decide) dX12_init_47 ?_
  refine z_putr C0 (σ1 := zsw σ a0 [26, 24, 23, 9, 1, 0]) hk (by omega) kf_12_26 zpf_12_26 rfl (fun q => ⟨rfl, rfl⟩) zr_12_26 hz26.1 (zsw_put σ a0 [24, 23, 9, 1, 0] 26 _) dX12_init_49 ?_
  refine z_aload_n C0 dX12_init_52 rfl 0 rfl ?_
  refine z_sipush C0 dX12_init_53 (v := 32761) rfl ?_
  refine z_newA C0 (len := 32761) (t0 := 0) (kind := 20) (ty := .int) rfl rfl rfl hz27.2.2.1 (by decide) hz27.2.2.2 kar_int (Or.inl rfl) (by decide) (by decide) (by decide) (by decide) (by decide) dX12_init_56 ?_
  refine z_putr C0 (σ1 := zsw σ a0 [27, 26, 24, 23, 9, 1, 0]) hk (by omega) kf_12_29 zpf_12_27 rfl (fun q => ⟨rfl, rfl⟩) zr_12_27 hz27.1 (zsw_put σ a0 [26, 24, 23, 9, 1, 0] 27 _) dX12_init_58 ?_
  refine z_aload_n C0 dX12_init_61 rfl 0 rfl ?_
  refine z_bipush C0 dX12_init_62 (v := 9) rfl ?_
  refine z_newA C0 (len := 9) (t0 := 0) (kind := 20) (ty := .int) rfl rfl rfl hz28.2.2.1 (by decide) hz28.2.2.2 kar_int (Or.inl rfl) (by decide) (by decide) (by decide) (by decide) (by decide) dX12_init_64 ?_
  refine z_putr C0 (σ1 := zsw σ a0 [28, 27, 26, 24, 23, 9, 1, 0]) hk (by omega) kf_12_32 zpf_12_28 rfl (fun q => ⟨rfl, rfl⟩) zr_12_28 hz28.1 (zsw_put σ a0 [27, 26, 24, 23, 9, 1, 0] 28 _) dX12_init_66 ?_
  refine z_aload_n C0 dX12_init_69 rfl 0 rfl ?_
  refine z_sipush C0 dX12_init_70 (v := 144) rfl ?_
  refine z_newA C0 (len := 144) (t0 := 1) (kind := 21) (ty := .boolean) rfl rfl rfl hz29.2.2.1 (by decide) hz29.2.2.2 kar_boolean (Or.inr rfl) (by decide) (by decide) (by decide) (by decide) (by decide) dX12_init_73 ?_
  refine z_putr C0 (σ1 := zsw σ a0 [29, 28, 27, 26, 24, 23, 9, 1, 0]) hk (by omega) kf_12_35 zpf_12_29 rfl (fun q => ⟨rfl, rfl⟩) zr_12_29 hz29.1 (zsw_put σ a0 [28, 27, 26, 24, 23, 9, 1, 0] 29 _) dX12_init_75 ?_
  refine z_aload_n C0 dX12_init_78 rfl 0 rfl ?_
  refine z_sipush C0 dX12_init_79 (v := 144) rfl ?_
  refine z_newA C0 (len := 144) (t0 := 1) (kind := 21) (ty := .boolean) rfl rfl rfl hz30.2.2.1 (by decide) hz30.2.2.2 kar_boolean (Or.inr rfl) (by decide) (by decide) (by decide) (by decide) (by decide) dX12_init_82 ?_
  refine z_putr C0 (σ1 := zsw σ a0 [30, 29, 28, 27, 26, 24, 23, 9, 1, 0]) hk (by omega) kf_12_38 zpf_12_30 rfl (fun q => ⟨rfl, rfl⟩) zr_12_30 hz30.1 (zsw_put σ a0 [29, 28, 27, 26, 24, 23, 9, 1, 0] 30 _) dX12_init_84 ?_
  refine z_aload_n C0 dX12_init_87 rfl 0 rfl ?_
  refine z_sipush C0 dX12_init_88 (v := 576) rfl ?_
  refine z_newA C0 (len := 576) (t0 := 0) (kind := 20) (ty := .int) rfl rfl rfl hz31.2.2.1 (by decide) hz31.2.2.2 kar_int (Or.inl rfl) (by decide) (by decide) (by decide) (by decide) (by decide) dX12_init_91 ?_
  refine z_putr C0 (σ1 := zsw σ a0 [31, 30, 29, 28, 27, 26, 24, 23, 9, 1, 0]) hk (by omega) kf_12_41 zpf_12_31 rfl (fun q => ⟨rfl, rfl⟩) zr_12_31 hz31.1 (zsw_put σ a0 [30, 29, 28, 27, 26, 24, 23, 9, 1, 0] 31 _) dX12_init_93 ?_
  refine z_aload_n C0 dX12_init_96 rfl 0 rfl ?_
  refine z_iconst C0 dX12_init_97 (v := 5) rfl ?_
  refine z_newA C0 (len := 5) (t0 := 0) (kind := 20) (ty := .int) rfl rfl rfl hz34.2.2.1 (by decide) hz34.2.2.2 kar_int (Or.inl rfl) (by decide) (by decide) (by decide) (by decide) (by decide) dX12_init_98 ?_
  refine z_putr C0 (σ1 := zsw σ a0 [34, 31, 30, 29, 28, 27, 26, 24, 23, 9, 1, 0]) hk (by omega) kf_12_44 zpf_12_34 rfl (fun q => ⟨rfl, rfl⟩) zr_12_34 hz34.1 (zsw_put σ a0 [31, 30, 29, 28, 27, 26, 24, 23, 9, 1, 0] 34 _) dX12_init_100 ?_
  refine z_aload_n C0 dX12_init_103 rfl 0 rfl ?_
  refine z_ldc C0 dX12_init_104 kk_RX12_47 ?_
  refine z_newA C0 (len := 65536) (t0 := 0) (kind := 20) (ty := .int) rfl rfl rfl hz36.2.2.1 (by decide) hz36.2.2.2 kar_int (Or.inl rfl) (by decide) (by decide) (by decide) (by decide) (by decide) dX12_init_106 ?_
  refine z_putr C0 (σ1 := zsw σ a0 [36, 34, 31, 30, 29, 28, 27, 26, 24, 23, 9, 1, 0]) hk (by omega) kf_12_48 zpf_12_36 rfl (fun q => ⟨rfl, rfl⟩) zr_12_36 hz36.1 (zsw_put σ a0 [34, 31, 30, 29, 28, 27, 26, 24, 23, 9, 1, 0] 36 _) dX12_init_108 ?_
  refine z_aload_n C0 dX12_init_111 rfl 0 rfl ?_
  refine z_get C0 (v := .ref (zb g + (a0 + 1))) hk (by omega) kf_12_7 (zval_ref zr_12_0 (by unfold zsw; rw [if_pos rfl]; rfl) hz0.1) dX12_init_112 ?_
  refine z_bipush C0 dX12_init_115 (v := 7) rfl ?_
  refine z_iconst C0 dX12_init_117 (v := -1) (by decide) ?_
  refine z_iast C0 (len := 4688) ⟨by omega, hz0.2.2.1, hz0.2.2.2⟩ (by decide) rfl rfl dX12_init_118 ?_
  refine z_sig (zsw_end (ks := [36, 34, 31, 30, 29, 28, 27, 26, 24, 23, 9, 1, 0]) hk (by decide) (by decide +kernel)) ?_
  obtain rfl := Option.some.inj h
  exact z_vret C0 rfl dX12_init_119
