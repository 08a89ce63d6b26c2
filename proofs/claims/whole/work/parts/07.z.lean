/-- the words that a caller hands to its callees -/
def ztbl : List Cond := lw_tbl.filter goodWord
/-! THE MEMORY AS A FUNCTION: cell o (an offset from the first cell of the law), place k, a number; references that never change are read off the tables of part 06 -/
abbrev zM : Type := Nat → Nat → Int32
abbrev zL : Type := va_G × (Nat → ClassId) × Nat × Heap × (Vm → Prop)
abbrev zb (g : zL) : Nat := g.2.2.1
def zkd (o : Nat) : Nat := (zSH.getD o (99, 0)).1
def zln (o : Nat) : Nat := (zSH.getD o (99, 0)).2
def zFX (o k : Nat) : Nat := (zFXt.getD o []).getD k 0
def zrk (ci k : Nat) : Nat := (zRKt.getD ci []).getD k 0
def znf (ci : Nat) : Nat := zNFt.getD ci 0
def zex (ci : Nat) : Nat := zEXt.getD ci 0
def zup (μ : zM) (o k : Nat) (v : Int32) : zM := fun q j => if q = o ∧ j = k then v else μ q j
def zupr (μ : zM) (o : Nat) (r : Nat → Int32) : zM := fun q => if q = o then r else μ q
def zsu (σ : Nat → Nat → Bool) (o k : Nat) : Nat → Nat → Bool := fun q j => if q = o ∧ j = k then true else σ q j
def zσ1 : Nat → Nat → Bool := fun _ _ => true
def zref (B : Nat) (v : Int32) : Value := if v < 0 then .null else .ref (B + v.toNatClampNeg)
def zval (B : Nat) (s : Nat → Bool) (r : Nat → Int32) (ci o k : Nat) : Value := if zrk ci k = 0 then .int (r k) else if zrk ci k = 1 then (if s k = true then .ref (B + zFX o k) else .null) else zref B (r k)
def zenr (g : zL) (s : Nat → Bool) (r : Nat → Int32) (o : Nat) : va_E :=
  if zkd o < 20 then .inr (zkd o, (List.range (znf (zkd o))).map (zval (zb g) s r (zkd o) o))
  else if zkd o < 22 then .inl (g.2.1 (zkd o), zln o, .inl r)
  else .inl (g.2.1 (zkd o), zln o, .inr (.inr (.inr (.inr (fun j => if s j = true then some (zb g + zFX o j) else none)))))
abbrev zent (g : zL) (σ : Nat → Nat → Bool) (μ : zM) (o : Nat) : va_E := zenr g (σ o) (μ o) o
def zW (g : zL) (N : Nat) (σ : Nat → Nat → Bool) (μ : zM) : va_W := (List.range N).map (fun o => (zb g + o, zent g σ μ o))
abbrev zA (g : zL) : Nat → Prop := fun q => zb g ≤ q
def ztys (g : zL) : List (ClassId × FieldType) := [(g.2.1 20, .int), (g.2.1 21, .boolean), (g.2.1 22, .object RX1), (g.2.1 23, .object RX6), (g.2.1 24, .object RX8), (g.2.1 25, .array .int)]
def zR (g : zL) (N : Nat) (σ : Nat → Nat → Bool) (μ : zM) (H : Heap) : Prop := va_P g.1 zcls (zW g N σ μ) H ∧ H.size = zb g + N ∧ ∀ q : Nat, q < zb g → H[q]? = g.2.2.2.1[q]?
def zSp (g : zL) (v : Vm) : Prop := g.2.2.2.2 v ∧ ∀ (U : State) (v2 : Vm), U.WarmedH v2 → g.2.2.2.2 U.vm → g.2.2.2.2 v2
def zIn (g : zL) (N : Nat) (σ : Nat → Nat → Bool) (μ : zM) (U : State) : Prop := zR g N σ μ U.heap ∧ va_K g.1 zcls (ztys g) U ∧ zSp g U.vm
def zQ (g : zL) (N : Nat) (σ : Nat → Nat → Bool) (rv : Option Value) (μ : zM) : Array Value → State → Outcome → State → Prop := fun _ _ oc t => oc = .returned rv ∧ zR g N σ μ t.heap
def zrm (d mc ms : Nat) : Room := { frames := d, cells := mc, slots := ms, locals := 64 * d }
/-- a method's contract: from the memory μ it answers rv and leaves the memory μ' -/
def zMet (l : Launch) (g : zL) (y : MethodName) (b : ByteArray) (nL : Nat) (ret : Option FieldType) (d mc ms N N' : Nat) (σ σ' : Nat → Nat → Bool) (av : List Value) (μ : zM) (rv : Option Value) (μ' : zM) : Prop :=
  Met l y (.code y b nL ret :: ztbl) (zrm d mc ms) (va_Pc av (zIn g N σ μ)) (zQ g N' σ' rv μ') mc ms (zA g)
def zC (p : Program) (s : State) (m : MethodId) (args : Array Value) (meth : Method) (c : Code) (g : zL) (cc : ByteArray) (y : MethodName) (nL : Nat) (ret : Option FieldType) : Prop :=
  (p.tables.exec = Jvm.exec ∧ c.code = cc ∧ c.maxLocals = nL ∧ s.vm.findClass y.cls = some m.cls ∧ ∀ w ∈ ztbl, w.before args s = true) ∧ meth.sig.returnType = ret ∧ meth.locks = false ∧ meth.name = y.name ∧ va_K g.1 zcls (ztys g) s ∧ (∀ q : Nat, q < zb g → s.heap[q]? = g.2.2.2.1[q]?) ∧ zb g ≤ s.heap.size ∧ zSp g s.vm
/-- at pc, with these locals and this stack, over this memory: the machine comes to a state with Q -/
def Z (p : Program) (l : Launch) (e : Env) (R : Room) (s : State) (m : MethodId) (args : Array Value) (below : List Frame) (meth : Method) (c : Code) (g : zL) (Q : State → Prop) (nL N k n : Nat) (σ : Nat → Nat → Bool) (μ : zM) (pc : Nat) (lo : List (Nat × Value)) (st : List Value) : Prop :=
  ∀ (H : Heap) (locs : List Loc) (ls : Array Slot), zR g N σ μ H → va_S (zA g) s.heap H locs → lv_has ls nL lo → W p l e R s m args below meth c H locs k n Q (F0 m pc ls st)
-- what kind a cell is
def zT (N : Nat) (σ : Nat → Nat → Bool) (a ci : Nat) : Prop := zkd a = ci ∧ a + zex ci ≤ N ∧ a < N ∧ ∀ o k : Nat, a ≤ o → o < a + zex ci → σ o k = true
def zAr (N b kind len : Nat) : Prop := b < N ∧ zkd b = kind ∧ zln b = len
theorem zT.sub {N : Nat} {σ : Nat → Nat → Bool} {a ci b cj : Nat} (h : zT N σ a ci) (h1 : a ≤ b) (h2 : b + zex cj ≤ a + zex ci) (hb : b < a + zex ci) (hk : zkd b = cj) : zT N σ b cj :=
  ⟨hk, Nat.le_trans h2 h.2.1, Nat.lt_of_lt_of_le hb h.2.1, fun o k q1 q2 => h.2.2.2 o k (Nat.le_trans h1 q1) (Nat.lt_of_lt_of_le q2 h2)⟩
theorem zkd_lt {o : Nat} (h : zkd o ≠ 99) : o < zNN := by
  rcases Nat.lt_or_ge o zNN with q | q
  · exact q
  · exfalso
    apply h
    have : zSH[o]? = none := List.getElem?_eq_none (by have : zSH.length = zNN := by decide +kernel
                                                       omega)
    simp [zkd, List.getD, this]
theorem zext_ok : ∀ a, a < zNN → zkd a < 20 → a + zex (zkd a) ≤ zNN := by decide +kernel
theorem zT_of {a ci : Nat} (h : zkd a = ci) (hc : ci < 20) : zT zNN zσ1 a ci := by
  have hl : a < zNN := zkd_lt (by omega)
  refine ⟨h, ?_, hl, fun _ _ _ _ => rfl⟩
  have := zext_ok a hl (by omega)
  rw [h] at this
  exact this
theorem zup_self (μ : zM) (o k : Nat) (v : Int32) : zup μ o k v o k = v := by simp [zup]
theorem zup_row (μ : zM) (o k : Nat) (v : Int32) : zup μ o k v o = upd (μ o) k v := by
  funext j
  simp [zup, upd]
theorem zup_rne (μ : zM) {o q : Nat} (k : Nat) (v : Int32) (h : q ≠ o) : zup μ o k v q = μ q := by
  funext j
  simp [zup, h]
theorem zsu_rne (σ : Nat → Nat → Bool) {o q : Nat} (k : Nat) (h : q ≠ o) : zsu σ o k q = σ q := by
  funext j
  simp [zsu, h]
theorem zW_get {g : zL} {N : Nat} {σ : Nat → Nat → Bool} {μ : zM} {o : Nat} (h : o < N) : (zW g N σ μ)[o]? = some (zb g + o, zent g σ μ o) := by
  simp [zW, h]
theorem zW_len {g : zL} {N : Nat} {σ : Nat → Nat → Bool} {μ : zM} : (zW g N σ μ).length = N := by simp [zW]
theorem zW_set {g : zL} {N : Nat} {σ σ' : Nat → Nat → Bool} {μ μ' : zM} {o : Nat} {e : va_E} (he : zent g σ' μ' o = e) (hs : ∀ q, q ≠ o → σ' q = σ q) (hm : ∀ q, q ≠ o → μ' q = μ q) :
    (zW g N σ μ).set o (zb g + o, e) = zW g N σ' μ' := by
  apply List.ext_getElem?
  intro j
  by_cases hj : j < N
  · by_cases hjo : j = o
    · subst hjo
      rw [List.getElem?_set_self (by rw [zW_len]; exact hj), zW_get hj, he]
    · rw [List.getElem?_set_ne (Ne.symm hjo), zW_get hj, zW_get hj]
      show some (_, zenr g (σ j) (μ j) j) = some (_, zenr g (σ' j) (μ' j) j)
      rw [hs j hjo, hm j hjo]
  · rw [List.getElem?_eq_none (by rw [List.length_set, zW_len]; omega), List.getElem?_eq_none (by rw [zW_len]; omega)]
theorem zW_at {g : zL} {N : Nat} {σ : Nat → Nat → Bool} {μ : zM} {i : Nat} {p : Nat × va_E} (h : (zW g N σ μ)[i]? = some p) : i < N ∧ p.1 = zb g + i := by
  have hl : i < N := by have := (List.getElem?_eq_some_iff.mp h).1; rwa [zW_len] at this
  rw [zW_get hl] at h
  cases h
  exact ⟨hl, rfl⟩
theorem zW_D (g : zL) (N : Nat) (σ : Nat → Nat → Bool) (μ : zM) : va_D (zA g) (zW g N σ μ) := by
  refine ⟨fun i j p q hi hj hpq => ?_, fun k q hk => ?_⟩
  · have h1 := (zW_at hi).2
    have h2 := (zW_at hj).2
    omega
  · rw [(zW_at hk).2]
    exact Nat.le_add_right _ _
theorem zlen {ci : Nat} {B o : Nat} {s : Nat → Bool} {r : Nat → Int32} : ((List.range (znf ci)).map (zval B s r ci o)).length = znf ci := by simp
theorem zent_obj {g : zL} {s : Nat → Bool} {r : Nat → Int32} {o ci : Nat} (h : zkd o = ci) (hc : ci < 20) : zenr g s r o = .inr (ci, (List.range (znf ci)).map (zval (zb g) s r ci o)) := by
  subst h
  simp [zenr, hc]
theorem zent_arr {N : Nat} {g : zL} {s : Nat → Bool} {r : Nat → Int32} {o kd len : Nat} (h : zAr N o kd len) (hc : kd = 20 ∨ kd = 21) : zenr g s r o = .inl (g.2.1 kd, len, .inl r) := by
  obtain ⟨-, h1, h2⟩ := h
  subst h1; subst h2
  have h3 : ¬ zkd o < 20 := by omega
  have h4 : zkd o < 22 := by omega
  simp only [zenr, if_neg h3, if_pos h4]
theorem zent_ra {N : Nat} {g : zL} {s : Nat → Bool} {r : Nat → Int32} {o kd len : Nat} (h : zAr N o kd len) (hc : 22 ≤ kd) : zenr g s r o = .inl (g.2.1 kd, len, .inr (.inr (.inr (.inr (fun j => if s j = true then some (zb g + zFX o j) else none))))) := by
  obtain ⟨-, h1, h2⟩ := h
  subst h1; subst h2
  have h3 : ¬ zkd o < 20 := by omega
  have h4 : ¬ zkd o < 22 := by omega
  simp only [zenr, if_neg h3, if_neg h4]
theorem zfs_get {B o ci k : Nat} {s : Nat → Bool} {r : Nat → Int32} (hk : k < znf ci) : ((List.range (znf ci)).map (zval B s r ci o))[k]? = some (zval B s r ci o k) := by
  simp [hk]
theorem zfs_set {B o ci k : Nat} {s s' : Nat → Bool} {r r' : Nat → Int32} {v : Value} (h : ∀ j, j < znf ci → j ≠ k → zval B s' r' ci o j = zval B s r ci o j) (hv : zval B s' r' ci o k = v) :
    ((List.range (znf ci)).map (zval B s r ci o)).set k v = (List.range (znf ci)).map (zval B s' r' ci o) := by
  apply List.ext_getElem?
  intro j
  by_cases hj : j < znf ci
  · by_cases hjk : j = k
    · subst hjk
      rw [List.getElem?_set_self (by simp [hj]), zfs_get hj, hv]
    · rw [List.getElem?_set_ne (Ne.symm hjk), zfs_get hj, zfs_get hj, h j hj hjk]
  · rw [List.getElem?_eq_none (by simp; omega), List.getElem?_eq_none (by simp; omega)]
-- words of the tables
theorem ztbl_good : GoodIn ztbl ztbl := fun w h => ⟨h, good_of_word (List.mem_filter.mp h).2⟩
theorem zmem {w : Cond} (i : Nat) (h : lw_tbl[i]? = some w) (hg : goodWord w = true) : w ∈ ztbl := List.mem_filter.mpr ⟨List.mem_of_getElem? h, hg⟩
theorem tbl_mem (ws : List Cond) (ps : List Nat) (hp : ws = ps.filterMap (fun i => lw_tbl[i]?)) (hg : ws.all goodWord = true) : ∀ w ∈ ws, w ∈ ztbl := by
  intro w hw
  have hg := List.all_eq_true.mp hg w hw
  rw [hp] at hw
  obtain ⟨i, -, hi⟩ := List.mem_filterMap.mp hw
  exact zmem i hi hg
/-- field k of class ci, as class 'own' links it by its entry idx -/
def zFld (own : String) (idx ci k : Nat) : Prop := ∃ (C : String) (T : u_T) (nf : Nat) (ty0 : Nat → FieldType), zcls[ci]? = some (C, T, nf) ∧ znf ci = nf ∧ k < nf ∧ ci < 20 ∧ (Cond.fieldLink own idx (T k).1 (T k).2.1 (T k).2.2.1) ∈ ztbl ∧ (∀ w ∈ u_ws C T nf, w ∈ ztbl) ∧
  (∀ a, a < nf → ∀ b, b < nf → a ≠ b → (T a).2.1 ≠ (T b).2.1) ∧ (∀ j, j < nf → parseFieldDescriptor (T j).2.2.1 = some (ty0 j))
def zCls (ci : Nat) (C : String) (T : u_T) (nf : Nat) (ty0 : Nat → FieldType) : Prop := zcls[ci]? = some (C, T, nf) ∧ znf ci = nf ∧ ci < 20 ∧ (∀ w ∈ u_ws C T nf, w ∈ ztbl) ∧
  (∀ a, a < nf → ∀ b, b < nf → a ≠ b → (T a).2.1 ≠ (T b).2.1) ∧ (∀ j, j < nf → parseFieldDescriptor (T j).2.2.1 = some (ty0 j))
theorem zFld.of {own : String} {idx ci k : Nat} {C : String} {T : u_T} {nf : Nat} {ty0 : Nat → FieldType} (h : zCls ci C T nf ty0) (hk : k < nf) {w : Cond} (he : Cond.fieldLink own idx (T k).1 (T k).2.1 (T k).2.2.1 = w) (hm : w ∈ ztbl) : zFld own idx ci k :=
  ⟨C, T, nf, ty0, h.1, h.2.1, hk, h.2.2.1, he ▸ hm, h.2.2.2.1, h.2.2.2.2.1, h.2.2.2.2.2⟩
def zCalV (C : String) (y : MethodName) (b : ByteArray) (nL : Nat) (ret : Option FieldType) (n : Nat) : Prop :=
  (Cond.instanceMethod y) ∈ ztbl ∧ (Cond.selects C y y) ∈ ztbl ∧ (Cond.code y b nL ret) ∈ ztbl ∧ (Cond.initialized y.cls) ∈ ztbl ∧ nL ≤ 45 ∧ y.cls = C ∧ y.cls ≠ "java/lang/invoke/MethodHandle" ∧ y.cls ≠ "java/lang/invoke/VarHandle" ∧ (parseMethodDescriptor y.desc).map (fun d => d.parameters.length) = some n
def zCalS (y : MethodName) (b : ByteArray) (nL : Nat) (ret : Option FieldType) (n : Nat) : Prop :=
  (Cond.static y) ∈ ztbl ∧ (Cond.code y b nL ret) ∈ ztbl ∧ (Cond.initialized y.cls) ∈ ztbl ∧ nL ≤ 45 ∧ y.cls ≠ "java/lang/invoke/MethodHandle" ∧ y.cls ≠ "java/lang/invoke/VarHandle" ∧ (parseMethodDescriptor y.desc).map (fun d => d.parameters.length) = some n
-- shallow words
def zl {α β : Type} (a : α) (f : α → β) : β := f a
theorem zl_of {α β : Type} {a : α} {f : α → β} {r : β} (h : zl a f = r) : ∃ v, v = a ∧ f v = r := ⟨a, rfl, h⟩
def zg {α : Type} (b : Bool) (x : Option α) : Option α := match b with
  | true => x
  | false => none
theorem zg_of {α : Type} {b : Bool} {x : Option α} {r : α} (h : zg b x = some r) : b = true ∧ x = some r := by
  cases b with
  | true => exact ⟨rfl, h⟩
  | false => cases h
theorem zg_t {α : Type} {b : Bool} {x : Option α} (h : b = true) : zg b x = x := by subst h; rfl
def zbd {α β : Type} (a : Option α) (f : α → Option β) : Option β := match a with
  | some v => f v
  | none => none
theorem zbd_of {α β : Type} {a : Option α} {f : α → Option β} {r : β} (h : zbd a f = some r) : ∃ v, a = some v ∧ f v = some r := by
  cases a with
  | some v => exact ⟨v, rfl, h⟩
  | none => cases h
theorem zbd_s {α β : Type} {a : Option α} {v : α} {f : α → Option β} (h : a = some v) : zbd a f = f v := by subst h; rfl
theorem zif_t {α : Type} {q : Prop} [Decidable q] {a b r : α} (c : q) (h : (if q then a else b) = r) : a = r := by rw [if_pos c] at h; exact h
theorem zif_f {α : Type} {q : Prop} [Decidable q] {a b r : α} (c : ¬ q) (h : (if q then a else b) = r) : b = r := by rw [if_neg c] at h; exact h
def zin (i : Int32) (n : Nat) : Bool := decide (0 ≤ i) && decide (i.toNatClampNeg < n)
theorem zin_vp {i : Int32} {n : Nat} (h : zin i n = true) : vp_in i n := by
  simp only [zin, Bool.and_eq_true, decide_eq_true_eq] at h
  intro q
  rcases q with q | q
  · exact (Int32.not_lt.mpr h.1) q
  · omega
theorem zin_lt {i : Int32} {n : Nat} (h : zin i n = true) : i.toNatClampNeg < n := by
  simp only [zin, Bool.and_eq_true, decide_eq_true_eq] at h
  exact h.2
def znz (y : Int32) : Bool := decide (¬ y = 0)
theorem znz_of {y : Int32} (h : znz y = true) : ¬ y = 0 := of_decide_eq_true h
/-- a truth value, as the machine keeps it -/
def z01 (v : Int32) : Bool := decide (v = 0) || decide (v = 1)
theorem z01_nar {v : Int32} (h : z01 v = true) : narrow .boolean (.int v) = .int v := by
  simp only [z01, Bool.or_eq_true, decide_eq_true_eq] at h
  rcases h with h | h <;> subst h <;> decide +kernel
def znb (v : Int32) : Int32 := vp_nar .boolean v
