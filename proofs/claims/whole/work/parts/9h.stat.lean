/-! THE START OF THE LAW: what stands before it -/
def flT : Cond → List Cond → List Cond
  | .and a b, acc => flT a (flT b acc)
  | c, acc => c :: acc
theorem flT_of {args : Array Value} {s : State} (T : Cond) : T.before args s = true → ∀ acc : List Cond, (∀ w ∈ acc, w.before args s = true) → ∀ w ∈ flT T acc, w.before args s = true := by
  induction T with
  | and a b iha ihb =>
    intro h acc ha
    rw [Cond.before_and, Bool.and_eq_true] at h
    exact iha h.1 _ (ihb h.2 _ ha)
  | _ =>
    intro h acc ha w hw
    simp only [flT, List.mem_cons] at hw
    rcases hw with rfl | hw
    · exact h
    · exact ha _ hw
def lwN : List Cond := flT narrow_1 []
def nWd (i : Nat) : Term := .static RX10 (zWnm.getD i "") "LGraveRegatta$Word;"
def nWi (i : Nat) : Nat := ([97, 104, 111, 118, 125, 132, 56, 139, 146, 153, 160, 167, 174, 181, 188, 195, 202, 209, 216, 223, 230, 237, 244, 63, 251, 258, 265, 272, 279, 286] : List Nat).getD i 0
def nLi (i : Nat) : Nat := ([349, 357, 365, 371, 380, 388, 329, 397, 405, 414, 424, 435, 443, 452, 461, 469, 477, 486, 494, 502, 510, 518, 527, 341, 405, 534, 542, 551, 560, 567] : List Nat).getD i 0
def nCi (i : Nat) : Nat := ([137, 143, 146, 149, 152, 155, 158, 161, 164, 167, 170, 173, 176, 179, 182, 185, 188, 191, 194, 197, 200, 203, 206, 209, 164, 213, 216, 219, 222, 225] : List Nat).getD i 0
def nSi (i : Nat) : Nat := ([1826, 1827, 1828, 1829, 1830, 1831, 574, 1832, 1833, 1834, 1835, 1836, 1837, 1838, 1839, 1840, 1841, 1842, 1843, 1844, 1845, 1846, 1847, 584, 1848, 1849, 1850, 1851, 1852, 1853] : List Nat).getD i 0
def nSt (i : Nat) : Term := .string RX10 (nCi i)
def nVl (i : Nat) : Term := .field (nSt i) "java/lang/String" "value" "[B"
theorem lwN_1 : lwN[3]? = some (.arrayOf (.static RX1 "AT_FIRST" "[I") .int) ∧ lwN[4]? = some (.eq (.length (.static RX1 "AT_FIRST" "[I")) (.int (Int32.ofNat 11))) ∧ (∀ j, j < 11 → lwN[5 + j]? = some (.eq (.elem (.static RX1 "AT_FIRST" "[I") (.int (Int32.ofNat j))) (.int (zATF.getD j 0)))) := by decide +kernel
theorem lwN_2 : lwN[71]? = some (.arrayOf (.static RX12 "BOUNDS" "[I") .int) ∧ lwN[72]? = some (.eq (.length (.static RX12 "BOUNDS" "[I")) (.int (Int32.ofNat 24))) ∧ (∀ j, j < 24 → lwN[73 + j]? = some (.eq (.elem (.static RX12 "BOUNDS" "[I") (.int (Int32.ofNat j))) (.int (zBND.getD j 0)))) := by decide +kernel
theorem lwN_3 : lwN[18]? = some (.arrayOf (.static RX5 "WORDS" "[LGraveRegatta$Word;") (.object RX10)) ∧ lwN[19]? = some (.eq (.length (.static RX5 "WORDS" "[LGraveRegatta$Word;")) (.int (Int32.ofNat 30))) ∧ (∀ j, j < 30 → lwN[21 + j]? = some (.eq (.elem (.static RX5 "WORDS" "[LGraveRegatta$Word;") (.int (Int32.ofNat j))) (nWd j))) := by decide +kernel
theorem lwN_4 : lwN[51]? = some (.eq (.static "java/lang/String" "COMPACT_STRINGS" "Z") (.int 1)) ∧ lwN[52]? = some (.isRef (.static "jdk/internal/util/Preconditions" "SIOOBE_FORMATTER" "Ljava/util/function/BiFunction;")) := by decide +kernel
theorem lwN_5 : ∀ i, i < 30 → lwN[nWi i]? = some (.exactly (nWd i) RX10) := by decide +kernel
theorem lwN_6 : ∀ i, i < 30 → lwN[nWi i + 2]? = some (.eq (.field (nWd i) RX10 "code" "I") (.int (zWc i))) := by decide +kernel
theorem lwN_7 : ∀ i, i < 30 → lwN[nWi i + 3]? = some (.eq (.field (nWd i) RX10 "letters" "Ljava/lang/String;") (nSt i)) := by decide +kernel
theorem lwN_8 : ∀ i, i < 30 → lwN[nWi i + 4]? = some (.eq (.field (nWd i) RX10 "first" "I") (.int (zWf i))) := by decide +kernel
theorem lwN_9 : ∀ i, i < 30 → lwN[nWi i + 5]? = some (.eq (.field (nWd i) RX10 "second" "I") (.int (zWs i))) := by decide +kernel
theorem lwN_10 : ∀ i, i < 30 → lwN[nWi i + 6]? = some (.eq (.field (nWd i) RX10 "third" "I") (.int (zWt i))) := by decide +kernel
theorem lwN_11 : ∀ i, i < 30 → lwN[nLi i]? = some (.exactly (nSt i) "java/lang/String") := by decide +kernel
theorem lwN_12 : ∀ i, i < 30 → lwN[nLi i + 1]? = some (.eq (.field (nSt i) "java/lang/String" "coder" "B") (.int 0)) := by decide +kernel
theorem lwN_13 : ∀ i, i < 30 → lwN[nLi i + 2]? = some (.arrayOf (nVl i) .byte) := by decide +kernel
theorem lwN_14 : ∀ i, i < 30 → lwN[nLi i + 3]? = some (.eq (.length (nVl i)) (.int (Int32.ofNat (zWl i).length))) := by decide +kernel
theorem lwN_15 : ∀ i, i < 30 → ∀ j, j < (zWl i).length → lwN[nLi i + 4 + j]? = some (.eq (.elem (nVl i) (.int (Int32.ofNat j))) (.int ((zWl i).getD j 0))) := by decide +kernel
theorem lwN_16 : ∀ i, i < 30 → (zWl i).length < 100 := by decide +kernel
theorem lwN_17 : ∀ i, i < 30 → ∀ j, j < 30 → (i = j ∨ zWc i ≠ zWc j) := by decide +kernel
theorem lwT_1 : ∀ i, i < 30 → tables_1[nSi i]? = some (.laysStatic RX10 (zWnm.getD i "") "LGraveRegatta$Word;") := by decide +kernel
theorem lwT_2 : Cond.laysStatic RX1 "AT_FIRST" "[I" ∈ tables_1 := List.mem_of_getElem? (i := 79) (by decide +kernel)
theorem lwT_3 : Cond.laysStatic RX12 "BOUNDS" "[I" ∈ tables_1 := List.mem_of_getElem? (i := 1406) (by decide +kernel)
theorem lwT_4 : Cond.laysStatic RX5 "WORDS" "[LGraveRegatta$Word;" ∈ tables_1 := List.mem_of_getElem? (i := 499) (by decide +kernel)
theorem lwT_5 : Cond.laysStatic "java/lang/String" "COMPACT_STRINGS" "Z" ∈ tables_1 := List.mem_of_getElem? (i := 518) (by decide +kernel)
theorem lwT_6 : Cond.laysStatic "jdk/internal/util/Preconditions" "SIOOBE_FORMATTER" "Ljava/util/function/BiFunction;" ∈ tables_1 := List.mem_of_getElem? (i := 534) (by decide +kernel)
theorem lwT_7 : Cond.initialized "java/lang/String" ∈ tables_1 := List.mem_of_getElem? (i := 15) (by decide +kernel)
theorem lwT_8 : Cond.initialized "jdk/internal/util/Preconditions" ∈ tables_1 := List.mem_of_getElem? (i := 17) (by decide +kernel)
theorem lwT_9 : Cond.arrayOver (.object RX1) ∈ tables_1 := List.mem_of_getElem? (i := 37) (by decide +kernel)
theorem lwT_10 : Cond.arrayOver (.object RX6) ∈ tables_1 := List.mem_of_getElem? (i := 39) (by decide +kernel)
theorem lwT_11 : Cond.arrayOver (.object RX8) ∈ tables_1 := List.mem_of_getElem? (i := 175) (by decide +kernel)
theorem lwT_12 : Cond.arrayOver (.array .int) ∈ tables_1 := List.mem_of_getElem? (i := 374) (by decide +kernel)
theorem lwT_13 : Cond.arrayClass .int ∈ tables_1 := List.mem_of_getElem? (i := 73) (by decide +kernel)
theorem lwT_14 : Cond.arrayClass .boolean ∈ tables_1 := List.mem_of_getElem? (i := 225) (by decide +kernel)
theorem lwT_15 : Cond.instantiable RX10 8 ∈ tables_1 := List.mem_of_getElem? (i := 503) (by decide +kernel)
theorem lwT_16 : Cond.fieldLinkNest RX5 107 RX10 "letters" "Ljava/lang/String;" "GraveRegatta" ∈ tables_1 := List.mem_of_getElem? (i := 1820) (by decide +kernel)
def lwNest : List Nat := [321, 331, 369, 384, 500, 565, 575, 600, 909, 884, 589, 1103]
theorem lwT_17 : ∀ k, k < 12 → (zNestM[k]?).map (fun q => Cond.methodLinkNest q.1 q.2.1 q.2.2 "GraveRegatta") = tables_1[lwNest.getD k 0]? := by decide +kernel
theorem lw_T {args : Array Value} {s : State} (hts : ∀ w ∈ lw_tbl, w.before args s = true) {w : Cond} (h : w ∈ tables_1) : w.before args s = true := hts w (List.mem_append_right _ h)
theorem lw_Z0 {args : Array Value} {s : State} (hts : ∀ w ∈ lw_tbl, w.before args s = true) {w : Cond} (h : w ∈ ztbl) : w.before args s = true := hts w (List.mem_filter.mp h).1
theorem lw_N {args : Array Value} {s : State} (hn : ∀ w ∈ lwN, w.before args s = true) {i : Nat} {w : Cond} (h : lwN[i]? = some w) : w.before args s = true := hn w (List.mem_of_getElem? h)
theorem va_eqL {args : Array Value} {s : State} {t u : Term} {a : Nat} (h : (Cond.eq t u).before args s = true) (hu : u.eval args s none [] s = some (.ref a)) : t.eval args s none [] s = some (.ref a) := by
  cases ht : t.eval args s none [] s with
  | none => simp [Cond.before, Cond.holds, Cond.value, ht, hu] at h
  | some w =>
    simp only [Cond.before, Cond.holds, Cond.value, ht, hu] at h
    cases w <;> simp_all
theorem lw_ai {args : Array Value} {s : State} {ty : FieldType} (h : (Cond.arrayClass ty).before args s = true) (hty : ∀ C, ty ≠ .object C) : ∃ cA : ClassId, ArrOfT s cA ty ∧ va_RA s cA ty := by
  obtain ⟨cA, kA, comp, h1, h2, h3⟩ := Cond.arrayClass_spec h
  refine ⟨cA, fun n z => ⟨fun k h => (by cases h), kA, h2, comp, h3⟩, ?_⟩
  cases ty with
  | object C => exact absurd rfl (hty C)
  | _ => exact h1
theorem lw_ao {args : Array Value} {s : State} {C : String} (h : (Cond.arrayOver (.object C)).before args s = true) : ∃ cA : ClassId, ArrOfT s cA (.object C) ∧ va_RA s cA (.object C) := by
  obtain ⟨comp, c, k, h1, h2, h3, h4, h5⟩ := Cond.arrayOver_spec h
  exact ⟨c, fun N z => ⟨(fun k h => by cases h), k, h3, comp, h4⟩, k, comp, h3, h4, h1, h5⟩
theorem lw_aa {args : Array Value} {s : State} {t : FieldType} (h : (Cond.arrayOver (.array t)).before args s = true) : ∃ cA : ClassId, ArrOfT s cA (.array t) ∧ va_RA s cA (.array t) := by
  obtain ⟨comp, c, k, h1, h3, h4, h5⟩ := Cond.arrayOver_specA h
  exact ⟨c, fun N z => ⟨(fun k h => by cases h), k, h3, comp, h4⟩, h5⟩
theorem lw_arr {args : Array Value} {s : State} {D : va_G} {A : Nat → Prop} {C n : String} {tm : Term} {N : Nat} {f : Nat → Int32} (htm : tm = .static C n "[I") (hN : N < 2 ^ 31) (hl : (Cond.laysStatic C n "[I").before args s = true) (hini : (Cond.initialized C).before args s = true) (harr : (Cond.arrayOf tm .int).before args s = true) (hlen : (Cond.eq (.length tm) (.int (Int32.ofNat N))).before args s = true) (hel : ∀ j, j < N → (Cond.eq (.elem tm (.int (Int32.ofNat j))) (.int (f j))).before args s = true) (hA : ∀ a : Nat, a < s.heap.size → ¬ A a) : ∃ t : Nat, va_Z C n "[I" (.ref t) A s s.heap ∧ va_T .int t N (fun j => .int (f j)) A s s.heap := by
  subst htm
  obtain ⟨t, ht, hT⟩ := va_Tof (f := fun j => .int (f j)) hN harr (va_eqt hlen) (fun j hj => va_eqt (hel j hj)) hA
  exact ⟨t, va_Zref hl hini ht hA, hT⟩
/-- the constants of the class and of the reference, as the law's start gives them -/
theorem lw_SF {args : Array Value} {s : State} (hts : ∀ w ∈ lw_tbl, w.before args s = true) (hn : ∀ w ∈ lwN, w.before args s = true) (g : zL) (hb : zb g = s.heap.size) (hH : g.2.2.2.1 = s.heap) : ∃ κ : zK, zSF g κ s := by
  have hA : ∀ a : Nat, a < s.heap.size → ¬ zA g a := fun a h => by show ¬ zb g ≤ a; rw [hb]; exact Nat.not_le.mpr h
  obtain ⟨aF, z1, t1⟩ := lw_arr (D := g.1) (f := fun j => zATF.getD j 0) rfl (by decide) (lw_T hts lwT_2) (lw_Z0 hts kii_RX1) (lw_N hn lwN_1.1) (lw_N hn lwN_1.2.1) (fun j hj => lw_N hn (lwN_1.2.2 j hj)) hA
  obtain ⟨aB, z2, t2⟩ := lw_arr (D := g.1) (f := fun j => zBND.getD j 0) rfl (by decide) (lw_T hts lwT_3) (lw_Z0 hts kii_RX12) (lw_N hn lwN_2.1) (lw_N hn lwN_2.2.1) (fun j hj => lw_N hn (lwN_2.2.2 j hj)) hA
  have h0 : ∀ i : Nat, ∃ t : Nat, i < 30 → (nWd i).eval args s none [] s = some (.ref t) ∧ va_O RX10 t (zA g) s s.heap := by
    intro i
    by_cases hi : i < 30
    · obtain ⟨a, c, cell, k, q1, q2, q3, q4, q5, q6, -⟩ := Cond.exactly_spec (lw_N hn (lwN_5 i hi))
      exact ⟨a, fun _ => ⟨q1, cell, q3, q5, by rw [q6]; exact q2, hA a (Array.getElem?_eq_some_iff.mp q3).1⟩⟩
    · exact ⟨0, fun h => absurd h hi⟩
  obtain ⟨ad, had⟩ := Classical.axiomOfChoice h0
  have h1 : ∀ i : Nat, ∃ q : Nat × Nat, i < 30 → (nSt i).eval args s none [] s = some (.ref q.1) ∧ va_O "java/lang/String" q.1 (zA g) s s.heap ∧ va_OF "java/lang/String" "coder" "B" (.int 0) q.1 (zA g) s s.heap ∧ va_OF "java/lang/String" "value" "[B" (.ref q.2) q.1 (zA g) s s.heap ∧ va_T .byte q.2 (zWl i).length (fun j => .int ((zWl i).getD j 0)) (zA g) s s.heap := by
    intro i
    by_cases hi : i < 30
    · obtain ⟨a, c, cA, kA, q1, q2, q3, q4, q5, q6, -⟩ := Cond.exactly_spec (lw_N hn (lwN_11 i hi))
      obtain ⟨t, ht, hT⟩ := va_Tof (f := fun j => .int ((zWl i).getD j 0)) (A := zA g) (Nat.lt_trans (lwN_16 i hi) (by decide)) (lw_N hn (lwN_13 i hi)) (va_eqt (lw_N hn (lwN_14 i hi))) (fun j hj => va_eqt (lw_N hn (lwN_15 i hi j hj))) hA
      exact ⟨(a, t), fun _ => ⟨q1, ⟨cA, q3, q5, by rw [q6]; exact q2, hA a (Array.getElem?_eq_some_iff.mp q3).1⟩, vk_OFof q1 (va_eqt (lw_N hn (lwN_12 i hi))) hA, vk_OFof q1 ht hA, hT⟩⟩
    · exact ⟨(0, 0), fun h => absurd h hi⟩
  obtain ⟨sd, hsd⟩ := Classical.axiomOfChoice h1
  obtain ⟨aW, tW, t3⟩ := va_Tof (f := fun j => .ref (ad j)) (A := zA g) (N := 30) (by decide) (lw_N hn lwN_3.1) (va_eqt (lw_N hn lwN_3.2.1)) (fun j hj => va_eqL (lw_N hn (lwN_3.2.2 j hj)) (had j hj).1) hA
  have z3 := va_Zref (lw_T hts lwT_4) (lw_Z0 hts kii_RX5) tW hA
  have hc : ∀ i, i < 30 → (Term.field (nWd i) RX10 "code" "I").eval args s none [] s = some (.int (zWc i)) := fun i hi => va_eqt (lw_N hn (lwN_6 i hi))
  refine ⟨(aF, aB, aW, ad, fun i => (sd i).1, fun i => (sd i).2), ?_⟩
  unfold zSF
  rw [hH]
  refine ⟨⟨z1, t1⟩, ⟨z2, t2⟩, ⟨z3, t3⟩, fun i hi => ?_, fun i j hi hj e => ?_, fun i hi => (hsd i hi).2, ⟨?_, ?_⟩, ?_, ?_⟩
  · have q1 := (had i hi).1
    exact ⟨va_Zref (lw_T hts (List.mem_of_getElem? (lwT_1 i hi))) (lw_Z0 hts kii_RX10) q1 hA, (had i hi).2, vk_OFof q1 (hc i hi) hA, vk_OFof q1 (va_eqt (lw_N hn (lwN_8 i hi))) hA, vk_OFof q1 (va_eqt (lw_N hn (lwN_9 i hi))) hA, vk_OFof q1 (va_eqt (lw_N hn (lwN_10 i hi))) hA, vk_OFof q1 (va_eqL (lw_N hn (lwN_7 i hi)) (hsd i hi).1) hA⟩
  · rcases lwN_17 i hi j hj with r | r
    · exact r
    · exfalso
      have a1 := hc i hi
      have a2 := hc j hj
      rw [va_fe (had i hi).1] at a1
      rw [va_fe (had j hj).1] at a2
      have e' : ad i = ad j := e
      rw [e'] at a1
      rw [a1] at a2
      have a3 := Value.int.inj (Option.some.inj a2)
      first | exact r a3 | exact r a3.symm
  · exact va_Zof (lw_T hts lwT_5) (lw_T hts lwT_7) (va_eqt (lw_N hn lwN_4.1)) hA
  · exact va_Zqof (lw_T hts lwT_6) (lw_T hts lwT_8) (lw_N hn lwN_4.2) hA
  · intro q hq
    obtain ⟨k, hk⟩ := List.mem_iff_getElem?.mp hq
    have hk8 : k < 12 := by
      have := (List.getElem?_eq_some_iff.mp hk).1
      exact this
    have e := lwT_17 k hk8
    rw [hk] at e
    exact va_Nw.of rfl (lw_T hts (List.mem_of_getElem? e.symm))
  · exact va_Nw.of rfl (lw_T hts lwT_16)
/-- they move with the machine -/
theorem zSF_mv {g : zL} {κ : zK} {u U : State} (al : u.vm.Alike U.vm) (hm : ∀ (a : String) (i : Nat) (x : MethodName) (h : String), va_Nw (.methodLinkNest a i x h) u → va_Nw (.methodLinkNest a i x h) U) (hf : ∀ (a : String) (i : Nat) (b n d h : String), va_Nw (.fieldLinkNest a i b n d h) u → va_Nw (.fieldLinkNest a i b n d h) U) (h : zSF g κ u) : zSF g κ U := by
  obtain ⟨⟨a1, a2⟩, ⟨b1, b2⟩, ⟨c1, c2⟩, d, e, f, ⟨g1, g2⟩, h1, h2⟩ := h
  exact ⟨⟨a1.moved al, a2.moved al⟩, ⟨b1.moved al, b2.moved al⟩, ⟨c1.moved al, c2.moved al⟩, fun i hi => ⟨(d i hi).1.moved al, (d i hi).2.1.moved al, (d i hi).2.2.1.moved al, (d i hi).2.2.2.1.moved al, (d i hi).2.2.2.2.1.moved al, (d i hi).2.2.2.2.2.1.moved al, (d i hi).2.2.2.2.2.2.moved al⟩, e, fun i hi => ⟨(f i hi).1.moved al, (f i hi).2.1.moved al, (f i hi).2.2.1.moved al, (f i hi).2.2.2.moved al⟩, ⟨g1.moved al, g2.moved al⟩, fun q hq => hm _ _ _ _ (h1 q hq), hf _ _ _ _ _ _ h2⟩
def lwAO (U : State) : Prop := va_AO RX1 U ∧ va_AO RX6 U ∧ va_AO RX8 U ∧ (Cond.arrayOver (.array .int)).before #[] U = true
theorem lwAO_mv {u U : State} (al : u.vm.Alike U.vm) (h : lwAO u) : lwAO U := by
  obtain ⟨h1, h2, h3, h4⟩ := h
  have e : (Cond.arrayOver (.array .int)).before #[] U = (Cond.arrayOver (.array .int)).before #[] (u.setVm U.vm) := by
    simp only [Cond.before, Cond.holds, Cond.value]
    rfl
  exact ⟨h1.moved al, h2.moved al, h3.moved al, by rw [e, Cond.arrayOver_setVmC al]; exact h4⟩
theorem lw_kn {args : Array Value} {s : State} (hts : ∀ w ∈ lw_tbl, w.before args s = true) (x : vw_C) (hx : x ∈ zcls) : ∃ q : ClassId × (Nat → Nat), u_Kn s x.1 x.2.1 x.2.2 q.1 q.2 := by
  have hz : ∀ w ∈ ztbl, w.before args s = true := fun w h => lw_Z0 hts h
  have go : ∀ {C : String} {T : u_T} {N n : Nat}, (∀ w ∈ u_ws C T N, w ∈ ztbl) → (Cond.instantiable C n).before args s = true → ∃ q : ClassId × (Nat → Nat), u_Kn s C T N q.1 q.2 := fun h1 h2 => by
    obtain ⟨c, i, h⟩ := u_known hz h1 h2
    exact ⟨(c, i), h⟩
  simp only [zcls, List.mem_cons, List.not_mem_nil, or_false] at hx
  rcases hx with rfl | rfl | rfl | rfl | rfl | rfl | rfl | rfl | rfl | rfl | rfl | rfl | rfl
  · exact go zcl_0.2.2.2.1 (hz _ kin_RX0)
  · exact go zcl_1.2.2.2.1 (hz _ kin_RX1)
  · exact go zcl_2.2.2.2.1 (hz _ kin_RX2)
  · exact go zcl_3.2.2.2.1 (hz _ kin_RX3)
  · exact go zcl_4.2.2.2.1 (hz _ kin_RX4)
  · exact go zcl_5.2.2.2.1 (hz _ kin_RX5)
  · exact go zcl_6.2.2.2.1 (hz _ kin_RX6)
  · exact go zcl_7.2.2.2.1 (hz _ kin_RX7)
  · exact go zcl_8.2.2.2.1 (hz _ kin_RX8)
  · exact go zcl_9.2.2.2.1 (hz _ kin_RX9)
  · exact go (fun w h => by simp [u_ws] at h) (lw_T hts lwT_15)
  · exact go zcl_11.2.2.2.1 (hz _ kin_RX11)
  · exact go zcl_12.2.2.2.1 (hz _ kin_RX12)
def lwSp (s : State) (g0 : zL) (κ : zK) (v : Vm) : Prop := zSF g0 κ (s.setVm v) ∧ lwAO (s.setVm v)
/-- the numbers of the classes, the constants, and that both last -/
theorem lw_sp {args : Array Value} {s : State} (hts : ∀ w ∈ lw_tbl, w.before args s = true) (hn : ∀ w ∈ lwN, w.before args s = true) : ∃ (g : zL) (κ : zK), zb g = s.heap.size ∧ g.2.2.2.1 = s.heap ∧ va_K g.1 zcls (ztys g) s ∧ zSp g s.vm ∧ zSK g κ ∧ zAO g := by
  have h0 : ∀ k : Nat, ∃ q : ClassId × (Nat → Nat), ∀ x : vw_C, zcls[k]? = some x → u_Kn s x.1 x.2.1 x.2.2 q.1 q.2 := by
    intro k
    cases hk : zcls[k]? with
    | none => exact ⟨(0, fun _ => 0), fun x hx => by cases hx⟩
    | some x =>
      obtain ⟨q, hq⟩ := lw_kn hts x (List.mem_of_getElem? hk)
      exact ⟨q, fun y hy => by cases hy; exact hq⟩
  obtain ⟨D, hD⟩ := Classical.axiomOfChoice h0
  obtain ⟨c0, a0, r0⟩ := lw_ai (lw_T hts lwT_13) (fun C h => by cases h)
  obtain ⟨c1, a1, r1⟩ := lw_ai (lw_T hts lwT_14) (fun C h => by cases h)
  obtain ⟨c2, a2, r2⟩ := lw_ao (lw_T hts lwT_9)
  obtain ⟨c3, a3, r3⟩ := lw_ao (lw_T hts lwT_10)
  obtain ⟨c4, a4, r4⟩ := lw_ao (lw_T hts lwT_11)
  obtain ⟨c5, a5, r5⟩ := lw_aa (lw_T hts lwT_12)
  have hAO : lwAO s := ⟨va_AO.of (lw_T hts lwT_9), va_AO.of (lw_T hts lwT_10), va_AO.of (lw_T hts lwT_11), lw_T hts lwT_12⟩
  let ids : Nat → ClassId := fun k => if k = 20 then c0 else if k = 21 then c1 else if k = 22 then c2 else if k = 23 then c3 else if k = 24 then c4 else c5
  obtain ⟨κ, hκ⟩ := lw_SF hts hn ((fun k => (D k).1, fun k => (D k).2), ids, s.heap.size, s.heap, fun _ => True) rfl rfl
  have hmv : ∀ {g : zL} {u U : State}, u.vm = U.vm → zSF g κ u → zSF g κ U := fun {g u U} e h => zSF_mv (by rw [e]; exact Vm.Alike.refl _) (fun _ _ _ _ z => z.same rfl e) (fun _ _ _ _ _ _ z => z.same rfl e) h
  refine ⟨((fun k => (D k).1, fun k => (D k).2), ids, s.heap.size, s.heap, lwSp s ((fun k => (D k).1, fun k => (D k).2), ids, s.heap.size, s.heap, fun _ => True) κ), κ, rfl, rfl, ⟨fun k x hx => hD k x hx, fun k x hx => ?_⟩, ⟨⟨hmv rfl hκ, lwAO_mv (Vm.Alike.refl _) hAO⟩, fun U v2 hW h => ⟨?_, lwAO_mv (hW.alike) h.2⟩⟩, fun U h => hmv (g := ((fun k => (D k).1, fun k => (D k).2), ids, s.heap.size, s.heap, fun _ => True)) rfl h.1, fun U h => lwAO_mv (Vm.Alike.refl _) h.2⟩
  · have hm := List.mem_of_getElem? hx
    simp only [ztys, List.mem_cons, List.not_mem_nil, or_false] at hm
    rcases hm with rfl | rfl | rfl | rfl | rfl | rfl
    · exact ⟨a0, r0⟩
    · exact ⟨a1, r1⟩
    · exact ⟨a2, r2⟩
    · exact ⟨a3, r3⟩
    · exact ⟨a4, r4⟩
    · exact ⟨a5, r5⟩
  · have z1 := hmv (U := U) rfl h.1
    have z2 : zSF _ κ (U.setVm v2) := zSF_mv hW.alike (fun _ _ _ _ z => z.warmM hW) (fun _ _ _ _ _ _ z => z.warmF hW) z1
    exact hmv rfl z2
