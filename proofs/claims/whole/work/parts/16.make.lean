/-! MAKING OBJECTS: the constructors lay their cells one behind another; the cell that comes next is cell N -/
theorem zR_grow {g : zL} {N c : Nat} {σ σ' : Nat → Nat → Bool} {μ μ' : zM} {H H1 : Heap} (hR : zR g N σ μ H) (hz : H1.size = H.size + c) (ho : ∀ q : Nat, q < H.size → H1[q]? = H[q]?) (hn : ∀ o, N ≤ o → o < N + c → va_at g.1 zcls (zb g + o, zent g σ' μ' o) H1)
    (hs : ∀ q, q < N → σ' q = σ q) (hm : ∀ q, q < N → μ' q = μ q) : zR g (N + c) σ' μ' H1 := by
  refine ⟨fun k q hk => ?_, by rw [hz, hR.2.1]; omega, fun q hq => (ho q (by rw [hR.2.1]; omega)).trans (hR.2.2 q hq)⟩
  have h1 := zW_at hk
  rw [zW_get h1.1] at hk
  cases hk
  by_cases hkN : k < N
  · have h2 := hR.1 k _ (zW_get hkN)
    have h3 : zent g σ' μ' k = zent g σ μ k := by
      show zenr g (σ' k) (μ' k) k = zenr g (σ k) (μ k) k
      rw [hs k hkN, hm k hkN]
    rw [h3]
    exact h2.kept (ho _ (by rw [hR.2.1]; show zb g + k < _; omega))
  · exact hn k (by omega) h1.1
theorem va_S_grow {A : Nat → Prop} {H0 H H1 : Heap} {locs : List Loc} (h : va_S A H0 H locs) (hz : H.size ≤ H1.size) (ho : ∀ q : Nat, q < H.size → H1[q]? = H[q]?) : va_S A H0 H1 locs :=
  ⟨Nat.le_trans h.1 hz, fun q h1 h2 => (ho q (Nat.lt_of_lt_of_le h1 h.1)).trans (h.2.1 q h1 h2), h.2.2⟩
def znew (μ : zM) (o ci : Nat) : zM := zupr μ o (fun j => if zrk ci j = 2 then -1 else 0)
def zσl (L : List (Nat × Nat)) : Nat → Nat → Bool := fun o k => match L.find? (fun q => q.1 == o) with
  | some q => decide (k < q.2)
  | none => true
section ZMAKE
variable {p : Program} {l : Launch} {e : Env} {R : Room} {s : State} {m : MethodId} {args : Array Value} {below : List Frame} {meth : Method} {c : Code} {g : zL} {Q : State → Prop} {nL N k n : Nat} {σ : Nat → Nat → Bool} {μ : zM} {cc : ByteArray} {y : MethodName} {ret : Option FieldType} {pc : Nat} {lo : List (Nat × Value)} {st : List Value}
theorem z_sig {σ' : Nat → Nat → Bool} (h : ∀ o, o < N → ∀ i, (zkd o < 20 → i < znf (zkd o) → zrk (zkd o) i = 1 → σ' o i = σ o i) ∧ (22 ≤ zkd o → σ' o i = σ o i)) (kk : Z p l e R s m args below meth c g Q nL N k n σ' μ pc lo st) : Z p l e R s m args below meth c g Q nL N k n σ μ pc lo st := by
  intro H locs ls hR hS hl
  have e0 : zW g N σ μ = zW g N σ' μ := by
    unfold zW
    refine List.map_congr_left fun o ho => ?_
    have ho := List.mem_range.mp ho
    refine congrArg (fun x => (zb g + o, x)) ?_
    show zenr g (σ o) (μ o) o = zenr g (σ' o) (μ o) o
    unfold zenr
    by_cases h1 : zkd o < 20
    · rw [if_pos h1, if_pos h1]
      refine congrArg (fun x => Sum.inr (zkd o, x)) (List.map_congr_left fun i hi => ?_)
      have hi := List.mem_range.mp hi
      unfold zval
      by_cases h2 : zrk (zkd o) i = 1
      · rw [(h o ho i).1 h1 hi h2]
      · simp [h2]
    · rw [if_neg h1, if_neg h1]
      by_cases h2 : zkd o < 22
      · rw [if_pos h2, if_pos h2]
      · rw [if_neg h2, if_neg h2]
        have : σ' o = σ o := funext fun i => (h o ho i).2 (by omega)
        rw [this]
  exact kk H locs ls ⟨by rw [← e0]; exact hR.1, hR.2⟩ hS hl
theorem z_newo (C0 : zC p s m args meth c g cc y nL ret) {ci idx : Nat} {σ' : Nat → Nat → Bool} {C : String} {T : u_T} {nf d RC RS : Nat} {ty0 : Nat → FieldType} (hRR : R = zrm d RC RS) (hc : zCls ci C T nf ty0) (hk : zkd N = ci) (hl : Cond.classLink y.cls idx C ∈ ztbl) (hi : Cond.instantiable C nf ∈ ztbl) (hini : Cond.initialized C ∈ ztbl)
    (hd0 : ∀ j, j < nf → (zrk ci j = 0 → defaultValue (ty0 j) = .int 0) ∧ (¬ zrk ci j = 0 → defaultValue (ty0 j) = .null)) (hσ : ∀ j, j < nf → zrk ci j = 1 → σ' N j = false) (hs : ∀ q, q < N → σ' q = σ q) (hcc : k + 1 ≤ RC) (hss : n + nf ≤ RS) (hd : decode cc pc = .ok (.new idx, 3))
    (kk : Z p l e R s m args below meth c g Q nL (N + 1) (k + 1) (n + nf) σ' (znew μ N ci) (pc + 3) lo (.ref (zb g + N) :: st)) : Z p l e R s m args below meth c g Q nL N k n σ μ pc lo st := by
  subst hRR
  intro H locs ls hR hS hl9
  obtain ⟨f1, f2, f4, f6, f7, f8⟩ := hc
  have hts := C0.1.2.2.2.2
  have hKn := C0.2.2.2.2.1.1 ci _ f1
  refine W.newcK C0.1.1 C0.1.2.1 C0.1.2.2.2.1 (hts _ hl) (hts _ hi) (hts _ hini) rfl hd hcc hss hKn.2.1 hR.2.1 fun H1 kC hkC e1 z1 o1 => ?_
  have oo : ∀ q : Nat, q < H.size → H1[q]? = H[q]? := fun q hq => o1 q (by rw [← hR.2.1]; exact hq)
  refine kk H1 locs ls (zR_grow hR (by rw [z1, hR.2.1]) oo (fun o h1 h2 => ?_) hs (fun q hq => zupr_ne μ _ (Nat.ne_of_lt hq))) (va_S_grow hS (by rw [z1, hR.2.1]; omega) oo) hl9
  obtain rfl : o = N := by omega
  show va_at _ _ (_, zenr g (σ' o) (zupr μ o _ o) o) _
  rw [zupr_self, zent_obj hk f4]
  refine ⟨_, f1, (u_born ty0 hts f6 hKn hkC e1 f8).to (fun j hj => ?_)⟩
  show _ = ((List.range (znf ci)).map _).getD j .null
  rw [List.getD_eq_getElem?_getD, zfs_get (by rw [f2]; exact hj)]
  show defaultValue (ty0 j) = zval (zb g) (σ' o) _ ci o j
  unfold zval
  by_cases h0 : zrk ci j = 0
  · rw [if_pos h0, (hd0 j hj).1 h0]
    have : ¬ zrk ci j = 2 := by omega
    simp [this]
  · rw [if_neg h0, (hd0 j hj).2 h0]
    by_cases h3 : zrk ci j = 1
    · rw [if_pos h3, hσ j hj h3]
      rfl
    · rw [if_neg h3]
      by_cases h4 : zrk ci j = 2
      · simp [h4, zref]
      · simp [h4, zref]
        sorry
end ZMAKE
