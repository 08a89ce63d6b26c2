/-! who may have stood where: the class's look -/
/-- the way of a raft that drifts alike each hour -/
def pth (L : Nat → Nat) (d e : Int32) : Nat → Nat → Int32
  | 0 => sbegin L L
  | k + 1 => smove L L d e (pth L d e k)
def mtB (L : Nat → Nat) (X : Nat → Nat → Nat) (d e : Int32) (k : Nat) : Bool := decide (pth L d e (k + 1) 0 = nI (X k 0)) && decide (pth L d e (k + 1) 1 = nI (X k 1))
/-- how many sights from the first on are so -/
def mt (L : Nat → Nat) (X : Nat → Nat → Nat) (d e : Int32) : Nat → Nat
  | 0 => 0
  | k + 1 => if mt L X d e k = k ∧ mtB L X d e k = true then k + 1 else mt L X d e k
theorem mt_le {L : Nat → Nat} {X : Nat → Nat → Nat} {d e : Int32} : ∀ k, mt L X d e k ≤ k
  | 0 => Nat.le_refl _
  | k + 1 => by
    have ih := mt_le (L := L) (X := X) (d := d) (e := e) k
    unfold mt
    split <;> omega
theorem mt_go {L : Nat → Nat} {X : Nat → Nat → Nat} {d e : Int32} {k : Nat} (h : mt L X d e k = k) (h0 : pth L d e (k + 1) 0 = nI (X k 0)) (h1 : pth L d e (k + 1) 1 = nI (X k 1)) : mt L X d e (k + 1) = k + 1 := by
  refine if_pos ⟨h, ?_⟩
  unfold mtB
  rw [decide_eq_true h0, decide_eq_true h1]
  rfl
theorem mt_stop {L : Nat → Nat} {X : Nat → Nat → Nat} {d e : Int32} {k : Nat} (h : mt L X d e k = k) (hb : ¬ (pth L d e (k + 1) 0 = nI (X k 0) ∧ pth L d e (k + 1) 1 = nI (X k 1))) : ∀ j, mt L X d e (k + 1 + j) = k
  | 0 => by
    have hb' : ¬ mtB L X d e k = true := fun w => by
      unfold mtB at w
      rw [Bool.and_eq_true, decide_eq_true_eq, decide_eq_true_eq] at w
      exact hb w
    show (if mt L X d e k = k ∧ mtB L X d e k = true then k + 1 else mt L X d e k) = k
    rw [if_neg (fun w => hb' w.2)]
    exact h
  | j + 1 => by
    have ih := mt_stop h hb j
    show (if mt L X d e (k + 1 + j) = k + 1 + j ∧ mtB L X d e (k + 1 + j) = true then k + 1 + j + 1 else mt L X d e (k + 1 + j)) = k
    rw [ih, if_neg (fun w => by have := w.1; omega)]
theorem pth_SP {L : Nat → Nat} {d e : Int32} (hO : LOk L) (hd : d = 0 ∨ d = 1 ∨ d = -1) (he : e = 0 ∨ e = 1 ∨ e = -1) : ∀ k, SP L L (pth L d e k)
  | 0 => (sbegin_ok hO).1
  | k + 1 => smove_SP hO.1 hO.1 hd he (pth_SP hO hd he k)
/-- the sights of a night, as the class has them -/
def SgC (w ns : Nat) (X : Nat → Nat → Nat) (μ : zM) : Prop := ns ≤ 8 ∧ w + 1 < 87 ∧ zln (w + 1) = 24 ∧ μ w 2 = nI ns ∧ ∀ j, j < ns → ∀ c, c < 2 → μ (w + 1) (3 * j + c) = nI (X j c)
theorem SgC.congr {w ns : Nat} {X : Nat → Nat → Nat} {μ μ' : zM} (h : SgC w ns X μ) (e : ∀ o, o < 87 → μ' o = μ o) : SgC w ns X μ' := by
  refine ⟨h.1, h.2.1, h.2.2.1, ?_, fun j hj c hc => ?_⟩
  · rw [e w (by have := h.2.1; omega)]
    exact h.2.2.2.1
  · rw [e (w + 1) h.2.1]
    exact h.2.2.2.2 j hj c hc
def lsm (L : Nat → Nat) (l : List Nat) (f : Nat → Nat) (ax : Int32) (n : Nat) : Int32 := sm n (fun m => if f m = 0 then 0 else nI (L (86 + 3 * m)) * arm L (l.getD (f m - 1) 0) ax)
def lnX (L : Nat → Nat) (l : List Nat) (f : Nat → Nat) (ax : Int32) : Int32 := leanS L (gl L ax + lsm L l f ax (L 14))
def mvW (L : Nat → Nat) (X : Nat → Nat → Nat) (ns : Nat) (l : List Nat) (f : Nat → Nat) : Nat := mt L X (lnX L l f 0) (lnX L l f 1) ns
def fitW (L : Nat → Nat) (X : Nat → Nat → Nat) (ns : Nat) (l : List Nat) (f : Nat → Nat) : Bool := decide (mvW L X ns l f = ns)
theorem lnX_congr {L : Nat → Nat} {l : List Nat} {f g : Nat → Nat} {ax : Int32} (h : ∀ m, m < L 14 → f m = g m) : lnX L l f ax = lnX L l g ax := by
  unfold lnX lsm
  rw [sm_congr (n := L 14) (fun m hm => by rw [h m hm])]
theorem mvW_congr {L : Nat → Nat} {X : Nat → Nat → Nat} {ns : Nat} {l : List Nat} {f g : Nat → Nat} (h : ∀ m, m < L 14 → f m = g m) : mvW L X ns l f = mvW L X ns l g := by
  unfold mvW
  rw [lnX_congr (ax := 0) h, lnX_congr (ax := 1) h]
theorem fitW_congr {L : Nat → Nat} {X : Nat → Nat → Nat} {ns : Nat} {l : List Nat} {f g : Nat → Nat} (h : ∀ m, m < L 14 → f m = g m) : fitW L X ns l f = fitW L X ns l g := by
  unfold fitW
  rw [mvW_congr h]
def fwI (k : Nat) : Int32 := if k = 6 then -1 else nI k
section LOOKC
variable {la w ns : Nat} {μ : zM} {L : Nat → Nat} {X : Nat → Nat → Nat} {l : List Nat}
theorem followC {dd : Nat} (h : LC la μ L) (hO : LOk L) (hr : la + 14 < 87) (hs : SgC w ns X μ) (hd : dd < 9) :
    wp (f_X9_follow la w 87 (nI dd) μ) (fun p => p.1 = nI (mt L X (nI (dd % 3) - 1) (nI (dd / 3) - 1) ns) ∧ ∀ o, o ≠ 87 → o ≠ 88 → o ≠ 89 → p.2 o = μ o) := by
  have e3 : nI dd % (3 : Int32) = nI (dd % 3) := by
    show nI dd % nI 3 = _
    exact nI_rem (by omega) (by omega) (by omega)
  have d3 : nI dd / (3 : Int32) = nI (dd / 3) := by
    show nI dd / nI 3 = _
    exact pk_div (by omega) (by omega) (by omega)
  have hx := dir3 (i := dd % 3) (by omega)
  have hy := dir3 (i := dd / 3) (by omega)
  have hw := hs.2.1
  have hz := hs.2.2.1
  have hns := hs.1
  generalize hdx : nI (dd % 3) - 1 = dx at hx
  generalize hdy : nI (dd / 3) - 1 = dy at hy
  unfold f_X9_follow
  refine wp_bdQ (launchC (r := 87) h h ⟨hr, hr⟩) fun μ1 ⟨g1, f1⟩ => wp_bd ?_
  refine wlp0 (fun n k μ' => f_X9_follow_L9 w 87 (nI dd) n (nI k) μ') _ ns (fun k μ' => RC 87 μ' la la (pth L dx dy k) ∧ mt L X dx dy k = k ∧ ∀ o, o ≠ 87 → o ≠ 88 → o ≠ 89 → μ' o = μ o) (by omega) μ1 ⟨g1, rfl, f1⟩ ?_ ?_
  · intro n k μ2 hk ⟨g2, m2, f2⟩ ih
    have l2 : LC la μ2 L := h.congr (fun o h1 h2 => f2 o (by omega) (by omega) (by omega))
    have es : μ2 w 2 = nI ns := by rw [f2 w (by omega) (by omega) (by omega)]; exact hs.2.2.2.1
    show wp (f_X9_follow_L9 w 87 (nI dd) (n + 1) (nI k) μ2) _
    rw [f_X9_follow_L9, es, e3, d3, hdx, hdy, nI_1]
    refine wp_ie (nI_ge hk (by omega)) (wp_bdQ (moveC g2 l2 l2 (by omega) hx hy (pth_SP hO hx hy k)) fun μ3 ⟨g3, f3⟩ => ?_)
    have f3' : ∀ o, o ≠ 87 → o ≠ 88 → o ≠ 89 → μ3 o = μ o := fun o a b c => (f3 o a).trans (f2 o a b c)
    have es3 : μ3 w 2 = nI ns := by rw [f3 w (by omega)]; exact es
    have num : ∀ c : Nat, c < 2 → f_X6_number w (nI k) (nI c) μ3 = some (nI (X k c)) := fun c hc => by
      rw [number_in rfl rfl es3 hk (by omega) (by rw [hz]; omega) (by rw [hz]; omega) (by omega), f3' (w + 1) (by omega) (by omega) (by omega), hs.2.2.2.2 k hk c hc]
    have a0 : μ3 87 2 = pth L dx dy (k + 1) 0 := g3.f 0 (by omega)
    have a1 : μ3 87 3 = pth L dx dy (k + 1) 1 := g3.f 1 (by omega)
    have stop : ¬ (pth L dx dy (k + 1) 0 = nI (X k 0) ∧ pth L dx dy (k + 1) 1 = nI (X k 1)) → nI k = nI (mt L X dx dy ns) := fun w => by
      have := mt_stop m2 w (ns - k - 1)
      rw [show k + 1 + (ns - k - 1) = ns by omega] at this
      rw [this]
    refine wp_bdE (num 0 (by omega)) ?_
    rw [a0, a1]
    by_cases q0 : pth L dx dy (k + 1) 0 = nI (X k 0)
    · by_cases q1 : pth L dx dy (k + 1) 1 = nI (X k 1)
      · exact wp_bd (wp_ie (fun w => w q0) (wp_bdE (num 1 (by omega)) (wp_it q1 (wp_some (wp_it rfl (wp_ls (ih _ ⟨g3, mt_go m2 q0 q1, f3'⟩)))))))
      · exact wp_bd (wp_ie (fun w => w q0) (wp_bdE (num 1 (by omega)) (wp_ie q1 (wp_some (wp_ie (by decide) (wp_some (wp_suml (wp_some ⟨stop (fun w => q1 w.2), f3'⟩))))))))
    · exact wp_bd (wp_it q0 (wp_some (wp_ie (by decide) (wp_some (wp_suml (wp_some ⟨stop (fun w => q0 w.1), f3'⟩))))))
  · intro n μ2 ⟨g2, m2, f2⟩
    have es : μ2 w 2 = nI ns := by rw [f2 w (by omega) (by omega) (by omega)]; exact hs.2.2.2.1
    show wp (f_X9_follow_L9 w 87 (nI dd) (n + 1) (nI ns) μ2) _
    rw [f_X9_follow_L9, es]
    refine wp_it (nI_le (Nat.le_refl _) (by omega)) (wp_some (wp_sumr (wp_some ⟨?_, f2⟩)))
    show μ2 w 2 = _
    rw [m2, es]
theorem tryWay23C {wy : Nat} {v3 : Int32} (h : LC la μ L) (hr : la + 14 < 87) (H : HL 107 106 5 l μ) (hl : l.length ≤ 4) (hp : ∀ j, j < l.length → l.getD j 0 < L 2 * L 3) (hw : wy < 2 ^ 31) :
    wp (f_X9_tryWay_L23 106 la v3 zFU (nI wy) 0 (gl L 0) (gl L 1) 0 μ) (fun p => p.1 = nI (sps (dig (l.length + 1) wy) (L 14)) ∧ p.2.1 = gl L 0 + lsm L l (dig (l.length + 1) wy) 0 (L 14) ∧ p.2.2.1 = gl L 1 + lsm L l (dig (l.length + 1) wy) 1 (L 14) ∧ (∀ o, o ≠ 110 → p.2.2.2 o = μ o) ∧ ∀ m, m < L 14 → p.2.2.2 110 m = nI (dig (l.length + 1) wy m)) := by
  have hB := h.2.1
  have hb5 := hB.2.1.2.2.2.1
  have h16 := pl16 hB
  refine wlp0 (fun n m (s : Int32 × Int32 × Int32 × Int32 × zM) => f_X9_tryWay_L23 106 la v3 n s.1 s.2.1 s.2.2.1 s.2.2.2.1 (nI m) s.2.2.2.2) _ (L 14) (fun m s => s.1 = nI (wy / (l.length + 1) ^ m) ∧ s.2.1 = nI (sps (dig (l.length + 1) wy) m) ∧ s.2.2.1 = gl L 0 + lsm L l (dig (l.length + 1) wy) 0 m ∧ s.2.2.2.1 = gl L 1 + lsm L l (dig (l.length + 1) wy) 1 m ∧ (∀ o, o ≠ 110 → s.2.2.2.2 o = μ o) ∧ ∀ j, j < m → s.2.2.2.2 110 j = nI (dig (l.length + 1) wy j)) (by omega) (nI wy, 0, gl L 0, gl L 1, μ) ⟨by rw [Nat.pow_zero, Nat.div_one], rfl, (Int32.add_zero _).symm, (Int32.add_zero _).symm, fun _ _ => rfl, fun j hj => by omega⟩ ?_ ?_
  · intro n m ⟨y5, y6, y7, y8, μ1⟩ hm ⟨i1, i2, i3, i4, i5, i6⟩ ih
    have i1 : y5 = nI (wy / (l.length + 1) ^ m) := i1
    have i2 : y6 = nI (sps (dig (l.length + 1) wy) m) := i2
    have i3 : y7 = gl L 0 + lsm L l (dig (l.length + 1) wy) 0 m := i3
    have i4 : y8 = gl L 1 + lsm L l (dig (l.length + 1) wy) 1 m := i4
    have i5 : ∀ o, o ≠ 110 → μ1 o = μ o := i5
    have i6 : ∀ j, j < m → μ1 110 j = nI (dig (l.length + 1) wy j) := i6
    have dl : wy / (l.length + 1) ^ m ≤ wy := Nat.div_le_self _ _
    have l1 : LC la μ1 L := h.congr (fun o h1 h2 => i5 o (by omega))
    have e14 : μ1 (la + 8) 2 = nI (L 14) := l1.2.2.1.2.1.2.2.2.1
    have ec : μ1 106 5 = nI l.length := by rw [i5 106 (by omega)]; exact H.1
    have er : y5 % nI (l.length + 1) = nI (dig (l.length + 1) wy m) := by
      rw [i1]
      exact nI_rem (by omega) (by omega) (by omega)
    have ed : y5 / nI (l.length + 1) = nI (wy / (l.length + 1) ^ (m + 1)) := by
      rw [i1, pk_div (by omega) (by omega) (by omega), Nat.div_div_eq_div_mul, ← Nat.pow_succ]
    have fl : dig (l.length + 1) wy m < l.length + 1 := dig_lt (by omega)
    show wp (f_X9_tryWay_L23 106 la v3 (n + 1) y5 y6 y7 y8 (nI m) μ1) _
    rw [f_X9_tryWay_L23, e14, ec, nI_1, er, nI_clamp (n := m) (by omega)]
    refine wp_it ⟨nI_ge hm (by omega), nI_ge (b := 5) (by omega) (by omega)⟩ (wp_g (znz_nI (by omega) (by omega)) (wp_g (zin_nI (by omega) (by omega)) (wp_ls ?_)))
    have f2 : ∀ o, o ≠ 110 → zup μ1 (106 + 4) m (nI (dig (l.length + 1) wy m)) o = μ o := fun o ho => by rw [zup_rne _ _ _ ho]; exact i5 o ho
    have d2 : ∀ j, j < m + 1 → zup μ1 (106 + 4) m (nI (dig (l.length + 1) wy m)) 110 j = nI (dig (l.length + 1) wy j) := fun j hj => by
      by_cases e : j = m
      · rw [e]
        exact zup_self _ _ _ _
      · rw [zup_ne (by omega)]
        exact i6 j (by omega)
    generalize zup μ1 (106 + 4) m (nI (dig (l.length + 1) wy m)) = μ2 at f2 d2 ⊢
    have l2 : LC la μ2 L := h.congr (fun o h1 h2 => f2 o (by omega))
    have ec2 : μ2 106 5 = nI l.length := by rw [f2 106 (by omega)]; exact H.1
    have dm : μ2 (106 + 4) m = nI (dig (l.length + 1) wy m) := d2 m (by omega)
    rw [ec2, nI_1, ed, dm]
    refine wp_g (znz_nI (by omega) (by omega)) (wp_ls (wp_bd3Q (Q := fun p => p.1 = nI (sps (dig (l.length + 1) wy) (m + 1)) ∧ p.2.1 = gl L 0 + lsm L l (dig (l.length + 1) wy) 0 (m + 1) ∧ p.2.2 = gl L 1 + lsm L l (dig (l.length + 1) wy) 1 (m + 1)) ?_ (fun x y z ⟨q1, q2, q3⟩ => wp_ls ?_)))
    · by_cases c : dig (l.length + 1) wy m = 0
      · refine wp_ie (fun w => w.1 (by rw [c]; decide)) (wp_some ⟨?_, ?_, ?_⟩)
        · show y6 = nI (if dig (l.length + 1) wy m = 0 then _ else _)
          rw [if_pos c]
          exact i2
        · show y7 = gl L 0 + (lsm L l (dig (l.length + 1) wy) 0 m + (if dig (l.length + 1) wy m = 0 then 0 else _))
          rw [if_pos c, Int32.add_zero]
          exact i3
        · show y8 = gl L 1 + (lsm L l (dig (l.length + 1) wy) 1 m + (if dig (l.length + 1) wy m = 0 then 0 else _))
          rw [if_pos c, Int32.add_zero]
          exact i4
      · have es : nI (dig (l.length + 1) wy m) - 1 = nI (dig (l.length + 1) wy m - 1) := pk_sub1 (by omega)
        have hc : l.getD (dig (l.length + 1) wy m - 1) 0 < L 2 * L 3 := hp _ (by omega)
        have e107 : μ2 (106 + 1) (dig (l.length + 1) wy m - 1) = nI (l.getD (dig (l.length + 1) wy m - 1) 0) := by
          show μ2 107 _ = _
          rw [f2 107 (by omega)]
          exact H.2 _ (by omega)
        rw [es, nI_clamp (by omega), e107, one_shl (by omega), i2, nI_or]
        have ew := mo_w (v := nI m) l2.1 hB l2.2.2.1 rfl hm
        refine wp_it ⟨show ¬ nI _ ≤ nI 0 from nI_ge (by omega) (by omega), show ¬ nI 4 < nI _ from nI_nlt (by omega) (by omega)⟩ (wp_g (zin_nI (by omega) (by omega)) (wp_ls (wp_ls (wp_bdE ew (wp_bdE (armC l2 rfl (by omega)) (wp_ls (wp_bdE ew (wp_bdE (armC l2 rfl (by omega)) (wp_ls (wp_some ⟨?_, ?_, ?_⟩))))))))))
        · show _ = nI (if dig (l.length + 1) wy m = 0 then _ else _)
          rw [if_neg c]
        · show y7 + _ = gl L 0 + (lsm L l (dig (l.length + 1) wy) 0 m + (if dig (l.length + 1) wy m = 0 then 0 else _))
          rw [if_neg c, ← Int32.add_assoc, ← i3]
        · show y8 + _ = gl L 1 + (lsm L l (dig (l.length + 1) wy) 1 m + (if dig (l.length + 1) wy m = 0 then 0 else _))
          rw [if_neg c, ← Int32.add_assoc, ← i4]
    · rw [nI_1]
      exact ih (_, x, y, z, μ2) ⟨rfl, q1, q2, q3, f2, d2⟩
  · intro n ⟨y5, y6, y7, y8, μ1⟩ ⟨i1, i2, i3, i4, i5, i6⟩
    have i5 : ∀ o, o ≠ 110 → μ1 o = μ o := i5
    have l1 : LC la μ1 L := h.congr (fun o h1 h2 => i5 o (by omega))
    have e14 : μ1 (la + 8) 2 = nI (L 14) := l1.2.2.1.2.1.2.2.2.1
    show wp (f_X9_tryWay_L23 106 la v3 (n + 1) y5 y6 y7 y8 (nI (L 14)) μ1) _
    rw [f_X9_tryWay_L23, e14]
    exact wp_ie (fun w => w.1 (nI_le (Nat.le_refl _) (by omega))) (wp_some ⟨i2, i3, i4, i5, i6⟩)
theorem keepWayC {s N : Nat} {f : Nat → Nat} (hs : s < 32) (hN : N ≤ 5) (hf : ∀ m, m < N → f m < 5) (h : ∀ m, m < N → μ 110 m = nI (f m)) :
    wp (f_X9_keepWay 106 (nI s) (nI N) μ) (fun μ' => (∀ o, o ≠ 106 → o ≠ 109 → μ' o = μ o) ∧ (∀ k, 3 ≤ k → μ' 106 k = μ 106 k) ∧ μ' 106 0 = μ 106 0 + 1 ∧ μ' 106 1 = μ 106 1 &&& nI s ∧ μ' 106 2 = (if ¬ μ 106 2 = -1 then zmin (μ 106 2) (nI (pc s)) else nI (pc s)) ∧ ∀ m, m < N → ∀ j, j < 5 → μ' 109 (5 * m + j) = μ 109 (5 * m + j) + (if f m = j then 1 else 0)) := by
  unfold f_X9_keepWay
  rw [bitCountC s (by omega)]
  refine wp_ls (wp_ls (wp_ls (wp_ls (wp_ls ?_))))
  generalize hm : zup (zup (zup μ 106 0 (μ 106 0 + 1)) 106 1 (zup μ 106 0 (μ 106 0 + 1) 106 1 &&& nI s)) 106 2 (if ¬ (zup (zup μ 106 0 (μ 106 0 + 1)) 106 1 (zup μ 106 0 (μ 106 0 + 1) 106 1 &&& nI s) 106 2) = (-1 : Int32) then (zmin (zup (zup μ 106 0 (μ 106 0 + 1)) 106 1 (zup μ 106 0 (μ 106 0 + 1) 106 1 &&& nI s) 106 2) (nI (pc s))) else (nI (pc s))) = μ1
  have f1 : ∀ o, o ≠ 106 → μ1 o = μ o := fun o ho => by rw [← hm, zup_rne _ _ _ ho, zup_rne _ _ _ ho, zup_rne _ _ _ ho]
  have k1 : ∀ k, 3 ≤ k → μ1 106 k = μ 106 k := fun k hk => by rw [← hm, zup_ne (by omega), zup_ne (by omega), zup_ne (by omega)]
  have a0 : μ1 106 0 = μ 106 0 + 1 := by rw [← hm, zup_ne (by omega), zup_ne (by omega), zup_self]
  have a1 : μ1 106 1 = μ 106 1 &&& nI s := by rw [← hm, zup_ne (by omega), zup_self, zup_ne (by omega)]
  have a2 : μ1 106 2 = (if ¬ μ 106 2 = -1 then zmin (μ 106 2) (nI (pc s)) else nI (pc s)) := by
    rw [← hm, zup_self, zup_ne (by omega), zup_ne (by omega)]
  refine wp_bdQ (Q := fun μ' => (∀ o, o ≠ 109 → μ' o = μ1 o) ∧ ∀ m, m < N → ∀ j, j < 5 → μ' 109 (5 * m + j) = μ 109 (5 * m + j) + (if f m = j then 1 else 0)) ?_ (fun μ' ⟨f2, d2⟩ => wp_some ⟨fun o h1 h2 => (f2 o h2).trans (f1 o h1), fun k hk => by rw [f2 106 (by omega)]; exact k1 k hk, by rw [f2 106 (by omega)]; exact a0, by rw [f2 106 (by omega)]; exact a1, by rw [f2 106 (by omega)]; exact a2, d2⟩)
  refine wlp0 (fun n m μ' => f_X9_keepWay_L52 106 (nI N) n (nI m) μ') _ N (fun M μ' => (∀ o, o ≠ 109 → μ' o = μ1 o) ∧ ∀ m, m < N → ∀ j, j < 5 → μ' 109 (5 * m + j) = μ 109 (5 * m + j) + (if m < M ∧ f m = j then 1 else 0)) (by omega) μ1 ⟨fun _ _ => rfl, fun m hm j hj => ?_⟩ ?_ ?_
  · rw [if_neg (by omega), Int32.add_zero, f1 109 (by omega)]
  · intro n M μ2 hM ⟨i1, i2⟩ ih
    have fl := hf M hM
    have e110 : μ2 (106 + 4) M = nI (f M) := by
      show μ2 110 M = _
      rw [i1 110 (by omega), f1 110 (by omega)]
      exact h M hM
    have ei : nI M * (5 : Int32) + nI (f M) = nI (5 * M + f M) := by
      show nI M * nI 5 + nI (f M) = _
      rw [pk_mul, nI_add, Nat.mul_comm]
    show wp (f_X9_keepWay_L52 106 (nI N) (n + 1) (nI M) μ2) _
    rw [f_X9_keepWay_L52, nI_clamp (n := M) (by omega), e110, ei, nI_clamp (n := 5 * M + f M) (by omega), nI_1]
    refine wp_it ⟨nI_ge hM (by omega), nI_ge (b := 5) (by omega) (by omega)⟩ (wp_g (zin_nI (by omega) (by omega)) (wp_g (zin_nI (by omega) (by omega)) (wp_ls (wp_ls (ih _ ⟨fun o ho => by rw [zup_rne _ _ _ ho]; exact i1 o ho, fun m hm j hj => ?_⟩)))))
    have old := i2 m hm j hj
    by_cases e : 5 * m + j = 5 * M + f M
    · obtain rfl : m = M := by omega
      obtain rfl : j = f m := by omega
      rw [if_neg (by omega), Int32.add_zero] at old
      rw [if_pos ⟨by omega, rfl⟩, zup_self]
      show μ2 109 _ + 1 = _
      rw [old]
    · rw [zup_ne (by omega), old]
      by_cases c : m < M ∧ f m = j
      · rw [if_pos c, if_pos ⟨by omega, c.2⟩]
      · rw [if_neg c, if_neg (fun w => ?_)]
        by_cases e2 : m = M
        · rw [e2] at e w
          exact e (by rw [w.2])
        · exact c ⟨by omega, w.2⟩
  · intro n μ2 ⟨i1, i2⟩
    show wp (f_X9_keepWay_L52 106 (nI N) (n + 1) (nI N) μ2) _
    rw [f_X9_keepWay_L52]
    refine wp_ie (fun w => w.1 (nI_le (Nat.le_refl _) (by omega))) (wp_some ⟨i1, fun m hm j hj => ?_⟩)
    rw [i2 m hm j hj]
    by_cases c : f m = j
    · rw [if_pos c, if_pos ⟨hm, c⟩]
    · rw [if_neg c, if_neg (fun w => c w.2)]
/-- what the class has gathered over the first W ways -/
def KW (L : Nat → Nat) (X : Nat → Nat → Nat) (ns : Nat) (l : List Nat) (W : Nat) (μ : zM) : Prop :=
  μ 106 0 = sm W (fun w => if fitW L X ns l (dig (l.length + 1) w) = true then 1 else 0) ∧ μ 106 1 = nI (abW (fitW L X ns l) (L 14) (dig (l.length + 1)) W) ∧ μ 106 2 = fwI (fwW (fitW L X ns l) (L 14) (dig (l.length + 1)) W) ∧ μ 106 3 = nI (mxW (mvW L X ns l) (dig (l.length + 1)) W) ∧ ∀ m, m < L 14 → ∀ j, j < 5 → μ 109 (5 * m + j) = sm W (fun w => if fitW L X ns l (dig (l.length + 1) w) = true ∧ dig (l.length + 1) w m = j then 1 else 0)
/-- what it looks at meanwhile -/
def KG (la w : Nat) (L : Nat → Nat) (X : Nat → Nat → Nat) (ns : Nat) (l : List Nat) (μ : zM) : Prop :=
  LC la μ L ∧ SgC w ns X μ ∧ HL 107 106 5 l μ ∧ ∀ d, d < 9 → μ 108 d = nI (mt L X (nI (d % 3) - 1) (nI (d / 3) - 1) ns)
theorem KG.congr {μ' : zM} (g : KG la w L X ns l μ) (hr : la + 14 < 87) (e : ∀ o, o ≠ 106 → o ≠ 109 → o ≠ 110 → μ' o = μ o) (e5 : μ' 106 5 = μ 106 5) : KG la w L X ns l μ' := by
  refine ⟨g.1.congr (fun o h1 h2 => e o (by omega) (by omega) (by omega)), g.2.1.congr (fun o ho => e o (by omega) (by omega) (by omega)), g.2.2.1.congr e5 (e 107 (by omega) (by omega) (by omega)), fun d hd => ?_⟩
  rw [e 108 (by omega) (by omega) (by omega)]
  exact g.2.2.2 d hd
theorem fwI_step {a p : Nat} (ha : a ≤ 6) (hp : p ≤ 5) : (if ¬ fwI a = -1 then zmin (fwI a) (nI p) else nI p) = fwI (if p < a then p else a) := by
  by_cases c : a = 6
  · rw [c, if_neg (fun w => w (show fwI 6 = -1 from if_pos rfl)), if_pos (by omega)]
    exact (if_neg (by omega)).symm
  · have e : fwI a = nI a := if_neg c
    rw [e, if_pos (nI_nm1 (by omega)), zmin_nI (by omega) (by omega)]
    refine (if_neg ?_).symm
    split <;> omega
theorem fwI_ne {a : Nat} (ha : a ≤ 6) : fwI a < 0 ↔ a = 6 := by
  by_cases c : a = 6
  · rw [c]
    exact ⟨fun _ => rfl, fun _ => by decide⟩
  · rw [show fwI a = nI a from if_neg c]
    exact ⟨fun w => absurd w (nI_pos (by omega)), fun w => absurd w c⟩
theorem tryWayC {W : Nat} (g : KG la w L X ns l μ) (k : KW L X ns l W μ) (hr : la + 14 < 87) (hl : l.length ≤ 4) (hp : ∀ j, j < l.length → l.getD j 0 < L 2 * L 3) (hW : W < 5000) :
    wp (f_X9_tryWay 106 la (nI W) (nI ns) μ) (fun μ' => KG la w L X ns l μ' ∧ KW L X ns l (W + 1) μ' ∧ ∀ o, o ≠ 106 → o ≠ 109 → o ≠ 110 → μ' o = μ o) := by
  have hB := g.1.2.1
  have hb5 := hB.2.1.2.2.2.1
  have hns := g.2.1.1
  unfold f_X9_tryWay
  rw [glC g.1, glC g.1]
  refine wp_ls (wp_ls (wp_bd4Q (tryWay23C g.1 hr g.2.2.1 hl hp (by omega)) fun s lx ly μ1 ⟨q1, q2, q3, q4, q5⟩ => ?_))
  have q1 : s = nI (sps (dig (l.length + 1) W) (L 14)) := q1
  have q2 : lx = gl L 0 + lsm L l (dig (l.length + 1) W) 0 (L 14) := q2
  have q3 : ly = gl L 1 + lsm L l (dig (l.length + 1) W) 1 (L 14) := q3
  have q4 : ∀ o, o ≠ 110 → μ1 o = μ o := q4
  have q5 : ∀ m, m < L 14 → μ1 110 m = nI (dig (l.length + 1) W m) := q5
  have g1 : KG la w L X ns l μ1 := g.congr hr (fun o _ _ h => q4 o h) (by rw [q4 106 (by omega)])
  obtain ⟨x1, x2⟩ := lnx_ok L lx
  obtain ⟨y1, y2⟩ := lnx_ok L ly
  have ei : (((leanS L ly + (1 : Int32)) * (3 : Int32)) + leanS L lx) + (1 : Int32) = nI (3 * lnx (leanS L ly) + lnx (leanS L lx)) := by
    rw [Int32.add_assoc, x2, y2]
    show nI _ * nI 3 + nI _ = _
    rw [pk_mul, nI_add, Nat.mul_comm]
  have mve : mvW L X ns l (dig (l.length + 1) W) = mt L X (leanS L lx) (leanS L ly) ns := by
    unfold mvW lnX
    rw [← q2, ← q3]
  have e108 : μ1 (106 + 2) (3 * lnx (leanS L ly) + lnx (leanS L lx)) = nI (mvW L X ns l (dig (l.length + 1) W)) := by
    have := g1.2.2.2 (3 * lnx (leanS L ly) + lnx (leanS L lx)) (by omega)
    rw [show (3 * lnx (leanS L ly) + lnx (leanS L lx)) % 3 = lnx (leanS L lx) by omega, show (3 * lnx (leanS L ly) + lnx (leanS L lx)) / 3 = lnx (leanS L ly) by omega, ← x2, ← y2] at this
    rw [mve]
    refine Eq.trans this ?_
    congr 2
    · generalize leanS L lx = v
      grind
    · generalize leanS L ly = v
      grind
  rw [leanC g1.1, leanC g1.1, ei, nI_clamp (by omega), e108]
  refine wp_g (zin_nI (by omega) (by omega)) (wp_ls (wp_ls ?_))
  have mvl : mvW L X ns l (dig (l.length + 1) W) ≤ ns := mt_le ns
  have e3 : μ1 106 3 = nI (mxW (mvW L X ns l) (dig (l.length + 1)) W) := by rw [q4 106 (by omega)]; exact k.2.2.2.1
  have mxl : mxW (mvW L X ns l) (dig (l.length + 1)) W ≤ ns := by
    rcases mxW_at (mvW L X ns l) (dig (l.length + 1)) W with e | ⟨w', _, e⟩
    · omega
    · rw [← e]
      exact mt_le ns
  have em : zmax (μ1 106 3) (nI (mvW L X ns l (dig (l.length + 1) W))) = nI (mxW (mvW L X ns l) (dig (l.length + 1)) (W + 1)) := by
    rw [e3]
    unfold zmax
    show _ = nI (if mxW (mvW L X ns l) (dig (l.length + 1)) W < mvW L X ns l (dig (l.length + 1) W) then _ else _)
    by_cases c : mxW (mvW L X ns l) (dig (l.length + 1)) W < mvW L X ns l (dig (l.length + 1) W)
    · rw [if_pos c, if_pos (nI_lt c (by omega))]
    · rw [if_neg c, if_neg (nI_nlt (by omega) (by omega))]
  rw [em]
  have f2 : ∀ o, o ≠ 106 → o ≠ 110 → zup μ1 106 3 (nI (mxW (mvW L X ns l) (dig (l.length + 1)) (W + 1))) o = μ o := fun o h1 h2 => by rw [zup_rne _ _ _ h1]; exact q4 o h2
  have k2 : ∀ j, j ≠ 3 → zup μ1 106 3 (nI (mxW (mvW L X ns l) (dig (l.length + 1)) (W + 1))) 106 j = μ 106 j := fun j hj => by rw [zup_ne (by omega), q4 106 (by omega)]
  have m2 : zup μ1 106 3 (nI (mxW (mvW L X ns l) (dig (l.length + 1)) (W + 1))) 106 3 = nI (mxW (mvW L X ns l) (dig (l.length + 1)) (W + 1)) := zup_self _ _ _ _
  have c2 : ∀ m, m < L 14 → zup μ1 106 3 (nI (mxW (mvW L X ns l) (dig (l.length + 1)) (W + 1))) 110 m = nI (dig (l.length + 1) W m) := fun m hm => by rw [zup_rne _ _ _ (by omega)]; exact q5 m hm
  generalize zup μ1 106 3 (nI (mxW (mvW L X ns l) (dig (l.length + 1)) (W + 1))) = μ2 at f2 k2 m2 c2 ⊢
  have g2 : KG la w L X ns l μ2 := g.congr hr (fun o a _ b => f2 o a b) (k2 5 (by omega))
  obtain ⟨k0, k1, kk2, _, k4⟩ := k
  by_cases c : mvW L X ns l (dig (l.length + 1) W) = ns
  · have fit : fitW L X ns l (dig (l.length + 1) W) = true := decide_eq_true c
    have e14 : μ2 (la + 8) 2 = nI (L 14) := g2.1.2.2.1.2.1.2.2.2.1
    have sl : sps (dig (l.length + 1) W) (L 14) < 32 := by
      have h1 := sps_lt (dig (l.length + 1) W) (L 14)
      have h2 : 2 ^ L 14 ≤ 2 ^ 5 := Nat.pow_le_pow_right (by omega) hb5
      omega
    rw [e14, q1]
    refine wp_bd (wp_ie (fun w => w (by rw [c])) (wp_bdQ (keepWayC sl hb5 (fun m _ => by have := dig_lt (c := l.length + 1) (w := W) (m := m) (by omega); omega) c2) fun μ3 ⟨f3, k3, a0, a1, a2, a4⟩ => wp_some (wp_some ⟨g2.congr hr (fun o a b _ => f3 o a b) (k3 5 (by omega)), ⟨?_, ?_, ?_, ?_, fun m hm j hj => ?_⟩, fun o x y z => by rw [f3 o x y]; exact f2 o x z⟩)))
    · rw [a0, k2 0 (by omega), k0]
      show _ = sm W _ + (if fitW L X ns l (dig (l.length + 1) W) = true then 1 else 0)
      rw [if_pos fit]
    · rw [a1, k2 1 (by omega), k1, nI_and]
      show _ = nI (if fitW L X ns l (dig (l.length + 1) W) = true then _ else _)
      rw [if_pos fit]
    · rw [a2, k2 2 (by omega), kk2, fwI_step (fwW_le _ _ _ _) (pc_le _ sl)]
      show _ = fwI (if fitW L X ns l (dig (l.length + 1) W) = true then _ else _)
      rw [if_pos fit]
    · rw [k3 3 (by omega)]
      exact m2
    · rw [a4 m hm j hj, f2 109 (by omega) (by omega), k4 m hm j hj]
      show _ = sm W _ + (if fitW L X ns l (dig (l.length + 1) W) = true ∧ dig (l.length + 1) W m = j then 1 else 0)
      by_cases e : dig (l.length + 1) W m = j
      · rw [if_pos e, if_pos ⟨fit, e⟩]
      · rw [if_neg e, if_neg (fun w => e w.2)]
  · have nofit : ¬ fitW L X ns l (dig (l.length + 1) W) = true := fun w => c (of_decide_eq_true w)
    have cn : ¬ nI (mvW L X ns l (dig (l.length + 1) W)) = nI ns := fun w => c (by rw [← nI_clamp (n := mvW L X ns l (dig (l.length + 1) W)) (by omega), w, nI_clamp (by omega)])
    refine wp_bd (wp_it cn (wp_some (wp_some ⟨g2, ⟨?_, ?_, ?_, m2, fun m hm j hj => ?_⟩, fun o x y z => f2 o x z⟩)))
    · rw [k2 0 (by omega), k0]
      show _ = sm W _ + (if fitW L X ns l (dig (l.length + 1) W) = true then 1 else 0)
      rw [if_neg nofit, Int32.add_zero]
    · rw [k2 1 (by omega), k1]
      show _ = nI (if fitW L X ns l (dig (l.length + 1) W) = true then _ else _)
      rw [if_neg nofit]
    · rw [k2 2 (by omega), kk2]
      show _ = fwI (if fitW L X ns l (dig (l.length + 1) W) = true then _ else _)
      rw [if_neg nofit]
    · rw [f2 109 (by omega) (by omega), k4 m hm j hj]
      show _ = sm W _ + (if fitW L X ns l (dig (l.length + 1) W) = true ∧ dig (l.length + 1) W m = j then 1 else 0)
      rw [if_neg (fun w => nofit w.1), Int32.add_zero]
/-- all ways -/
def aW (L : Nat → Nat) : Nat := ((crs (L 2) (L 3)).length + 1) ^ L 14
theorem aW_le {L : Nat → Nat} (hB : LB L) : aW L ≤ 3125 := by
  have h2 := hB.1.2.2.1
  have h3 := hB.1.2.2.2.1
  have := crs_len (L 2) (by omega) (L 3) (by omega) (by omega) (by omega)
  exact pow_small (by omega) hB.2.1.2.2.2.1
theorem lookC (h : LC la μ L) (hO : LOk L) (hr : la + 14 < 87) (hs : SgC w ns X μ) :
    wp (f_X9_look 106 la w 87 μ) (fun μ' => KP μ μ' ∧ HL 107 106 5 (crs (L 2) (L 3)) μ' ∧ μ' 106 0 = sm (aW L) (fun w => if fitW L X ns (crs (L 2) (L 3)) (dig ((crs (L 2) (L 3)).length + 1) w) = true then 1 else 0) ∧ μ' 106 1 = (if ¬ μ' 106 0 = 0 then nI (abW (fitW L X ns (crs (L 2) (L 3))) (L 14) (dig ((crs (L 2) (L 3)).length + 1)) (aW L)) else 0) ∧ μ' 106 2 = fwI (fwW (fitW L X ns (crs (L 2) (L 3))) (L 14) (dig ((crs (L 2) (L 3)).length + 1)) (aW L)) ∧ μ' 106 3 = nI (mxW (mvW L X ns (crs (L 2) (L 3))) (dig ((crs (L 2) (L 3)).length + 1)) (aW L)) ∧ ∀ m, m < L 14 → ∀ j, j < 5 → μ' 109 (5 * m + j) = sm (aW L) (fun w => if fitW L X ns (crs (L 2) (L 3)) (dig ((crs (L 2) (L 3)).length + 1) w) = true ∧ dig ((crs (L 2) (L 3)).length + 1) w m = j then 1 else 0)) := by
  have hB := hO.1
  have h2 := hB.1.2.2.1
  have h3 := hB.1.2.2.2.1
  have hb5 := hB.2.1.2.2.2.1
  have hl := crs_len (L 2) (by omega) (L 3) (by omega) (by omega) (by omega)
  have hp : ∀ j, j < (crs (L 2) (L 3)).length → (crs (L 2) (L 3)).getD j 0 < L 2 * L 3 := fun j hj => crs_lt (by omega) (by omega) (by omega) ⟨by omega, by omega, hj⟩
  have hA := aW_le hB
  unfold f_X9_look
  refine wp_bdQ (findCornersC h hr) fun μ1 ⟨H1, f1⟩ => ?_
  generalize hcl : crs (L 2) (L 3) = l at hl hp H1
  refine wp_bdQ (Q := fun μ' => (∀ o, o ≠ 87 → o ≠ 88 → o ≠ 89 → o ≠ 108 → μ' o = μ1 o) ∧ ∀ d, d < 9 → μ' 108 d = nI (mt L X (nI (d % 3) - 1) (nI (d / 3) - 1) ns)) ?_ (fun μ2 ⟨f2, d2⟩ => ?_)
  · refine wlp0 (fun n d μ' => f_X9_look_L8 106 la w 87 n (nI d) μ') _ 9 (fun d μ' => (∀ o, o ≠ 87 → o ≠ 88 → o ≠ 89 → o ≠ 108 → μ' o = μ1 o) ∧ ∀ d', d' < d → μ' 108 d' = nI (mt L X (nI (d' % 3) - 1) (nI (d' / 3) - 1) ns)) (by omega) μ1 ⟨fun _ _ _ _ _ => rfl, fun d hd => by omega⟩ ?_ ?_
    · intro n d μ2 hd ⟨i1, i2⟩ ih
      have f2 : ∀ o, o < 87 → μ2 o = μ o := fun o ho => by rw [i1 o (by omega) (by omega) (by omega) (by omega)]; exact f1 o (by omega) (by omega)
      show wp (f_X9_look_L8 106 la w 87 (n + 1) (nI d) μ2) _
      rw [f_X9_look_L8]
      refine wp_ie (nI_ge (b := 9) hd (by omega)) (wp_bd2Q (followC (h.congr (fun o _ _ => f2 o (by omega))) hO hr (hs.congr f2) hd) fun r μ3 ⟨e3, f3⟩ => wp_g (zin_nI (by omega) (by omega)) (wp_ls (wp_ls ?_)))
      have e3 : r = nI (mt L X (nI (d % 3) - 1) (nI (d / 3) - 1) ns) := e3
      have f3 : ∀ o, o ≠ 87 → o ≠ 88 → o ≠ 89 → μ3 o = μ2 o := f3
      rw [nI_1, nI_clamp (by omega)]
      refine ih _ ⟨fun o a b c e => by rw [zup_rne _ _ _ e, f3 o a b c]; exact i1 o a b c e, fun d' hd' => ?_⟩
      by_cases e : d' = d
      · rw [e, e3]
        exact zup_self _ _ _ _
      · rw [zup_ne (by omega), f3 108 (by omega) (by omega) (by omega)]
        exact i2 d' (by omega)
    · intro n μ2 hI
      show wp (f_X9_look_L8 106 la w 87 (n + 1) (nI 9) μ2) _
      rw [f_X9_look_L8]
      exact wp_it (nI_le (a := 9) (Nat.le_refl _) (by omega)) (wp_some hI)
  · have l2 : LC la μ2 L := h.congr (fun o a b => by rw [f2 o (by omega) (by omega) (by omega) (by omega)]; exact f1 o (by omega) (by omega))
    refine wp_ls (wp_ls (wp_ls (wp_ls ?_)))
    have e14 : zup μ2 106 0 0 (la + 8) 2 = nI (L 14) := by
      rw [zup_rne _ _ _ (by omega)]
      exact l2.2.2.1.2.1.2.2.2.1
    rw [e14, one_shl (by omega), show nI (2 ^ L 14) - 1 = nI (2 ^ L 14 - 1) from pk_sub1 (Nat.pow_pos (by omega))]
    generalize hm : zup (zup (zup (zup μ2 106 0 0) 106 1 (nI (2 ^ L 14 - 1))) 106 2 (-1)) 106 3 0 = μ3
    have f3 : ∀ o, o ≠ 106 → μ3 o = μ2 o := fun o ho => by rw [← hm, zup_rne _ _ _ ho, zup_rne _ _ _ ho, zup_rne _ _ _ ho, zup_rne _ _ _ ho]
    have a0 : μ3 106 0 = 0 := by rw [← hm, zup_ne (by omega), zup_ne (by omega), zup_ne (by omega), zup_self]
    have a1 : μ3 106 1 = nI (2 ^ L 14 - 1) := by rw [← hm, zup_ne (by omega), zup_ne (by omega), zup_self]
    have a2 : μ3 106 2 = -1 := by rw [← hm, zup_ne (by omega), zup_self]
    have a3 : μ3 106 3 = 0 := by rw [← hm, zup_self]
    have a5 : μ3 106 5 = μ2 106 5 := by rw [← hm, zup_ne (by omega), zup_ne (by omega), zup_ne (by omega), zup_ne (by omega)]
    refine wp_bdQ (Q := fun μ' => (∀ o, o ≠ 109 → μ' o = μ3 o) ∧ ∀ j, j < 25 → μ' 109 j = 0) ?_ (fun μ4 ⟨f4, z4⟩ => ?_)
    · refine wlp0 (fun n k μ' => f_X9_look_L69 106 la w n (nI k) μ') _ 25 (fun k μ' => (∀ o, o ≠ 109 → μ' o = μ3 o) ∧ ∀ j, j < k → μ' 109 j = 0) (by omega) μ3 ⟨fun _ _ => rfl, fun j hj => by omega⟩ ?_ ?_
      · intro n k μ4 hk ⟨i1, i2⟩ ih
        show wp (f_X9_look_L69 106 la w (n + 1) (nI k) μ4) _
        rw [f_X9_look_L69, nI_1, nI_clamp (by omega)]
        refine wp_ie (nI_ge (b := 25) hk (by omega)) (wp_g (zin_nI (by omega) (by omega)) (wp_ls (wp_ls (ih _ ⟨fun o ho => by rw [zup_rne _ _ _ ho]; exact i1 o ho, fun j hj => ?_⟩))))
        by_cases e : j = k
        · rw [e]
          exact zup_self _ _ _ _
        · rw [zup_ne (by omega)]
          exact i2 j (by omega)
      · intro n μ4 hI
        show wp (f_X9_look_L69 106 la w (n + 1) (nI 25) μ4) _
        rw [f_X9_look_L69]
        exact wp_it (nI_le (a := 25) (Nat.le_refl _) (by omega)) (wp_some hI)
    · have e4 : ∀ o, o ≠ 87 → o ≠ 88 → o ≠ 89 → o ≠ 106 → o ≠ 107 → o ≠ 108 → o ≠ 109 → μ4 o = μ o := fun o b1 b2 b3 b4 b5 b6 b7 => by rw [f4 o b7, f3 o b4, f2 o b1 b2 b3 b6]; exact f1 o b4 b5
      have c5 : μ4 106 5 = nI l.length := by rw [f4 106 (by omega), a5, f2 106 (by omega) (by omega) (by omega) (by omega)]; exact H1.1
      have l4 : LC la μ4 L := h.congr (fun o b1 b2 => e4 o (by omega) (by omega) (by omega) (by omega) (by omega) (by omega) (by omega))
      have g4 : KG la w L X ns l μ4 := ⟨l4, hs.congr (fun o ho => e4 o (by omega) (by omega) (by omega) (by omega) (by omega) (by omega) (by omega)), ⟨c5, fun j hj => by
          rw [f4 107 (by omega), f3 107 (by omega), f2 107 (by omega) (by omega) (by omega) (by omega)]
          exact H1.2 j hj⟩, fun d hd => by
          rw [f4 108 (by omega), f3 108 (by omega)]
          exact d2 d hd⟩
      have k4 : KW L X ns l 0 μ4 := by
        refine ⟨?_, ?_, ?_, ?_, fun m hm j hj => ?_⟩
        · rw [f4 106 (by omega)]
          exact a0
        · rw [f4 106 (by omega)]
          exact a1
        · rw [f4 106 (by omega)]
          exact a2
        · rw [f4 106 (by omega)]
          exact a3
        · exact z4 (5 * m + j) (by omega)
      have hAl : aW L = (l.length + 1) ^ L 14 := by
        unfold aW
        rw [hcl]
      refine wp_bdQ (Q := fun x => x = nI (aW L)) ?_ (fun x hx => ?_)
      · rw [hAl]
        refine wlp0 (fun n m x => f_X9_look_L96 106 la w μ4 n x (nI m)) _ (L 14) (fun m x => x = nI ((l.length + 1) ^ m)) (by omega) 1 rfl ?_ ?_
        · intro n m x hm hx ih
          have e14 : μ4 (la + 8) 2 = nI (L 14) := l4.2.2.1.2.1.2.2.2.1
          show wp (f_X9_look_L96 106 la w μ4 (n + 1) x (nI m)) _
          rw [f_X9_look_L96, e14, c5, nI_1, nI_1, hx, pk_mul, ← Nat.pow_succ]
          exact wp_ie (nI_ge hm (by omega)) (wp_ls (wp_ls (ih _ rfl)))
        · intro n x hx
          have e14 : μ4 (la + 8) 2 = nI (L 14) := l4.2.2.1.2.1.2.2.2.1
          show wp (f_X9_look_L96 106 la w μ4 (n + 1) x (nI (L 14))) _
          rw [f_X9_look_L96, e14]
          exact wp_it (nI_le (Nat.le_refl _) (by omega)) (wp_some hx)
      · rw [hx]
        refine wp_bdQ (Q := fun μ' => KG la w L X ns l μ' ∧ KW L X ns l (aW L) μ' ∧ ∀ o, o ≠ 106 → o ≠ 109 → o ≠ 110 → μ' o = μ4 o) ?_ (fun μ5 ⟨g5, k5, f5⟩ => wp_ls (wp_ls (wp_some ?_)))
        · refine wlp0 (fun n W μ' => f_X9_look_L128 106 la w (nI (aW L)) n (nI W) μ') _ (aW L) (fun W μ' => KG la w L X ns l μ' ∧ KW L X ns l W μ' ∧ ∀ o, o ≠ 106 → o ≠ 109 → o ≠ 110 → μ' o = μ4 o) (by omega) μ4 ⟨g4, k4, fun _ _ _ _ => rfl⟩ ?_ ?_
          · intro n W μ5 hW ⟨i1, i2, i3⟩ ih
            have es : μ5 w 2 = nI ns := i1.2.1.2.2.2.1
            show wp (f_X9_look_L128 106 la w (nI (aW L)) (n + 1) (nI W) μ5) _
            rw [f_X9_look_L128, es, nI_1]
            exact wp_ie (nI_ge hW (by omega)) (wp_bdQ (tryWayC i1 i2 hr hl.2 hp (by omega)) fun μ6 ⟨j1, j2, j3⟩ => wp_ls (ih _ ⟨j1, j2, fun o a b c => (j3 o a b c).trans (i3 o a b c)⟩))
          · intro n μ5 hI
            show wp (f_X9_look_L128 106 la w (nI (aW L)) (n + 1) (nI (aW L)) μ5) _
            rw [f_X9_look_L128]
            exact wp_it (nI_le (Nat.le_refl _) (by omega)) (wp_some hI)
        · obtain ⟨k0, k1, k2, k3, k6⟩ := k5
          refine ⟨fun o ho => ?_, g5.2.2.1.congr (zup_ne (by omega)) (zup_rne _ _ _ (by omega)), ?_, ?_, ?_, ?_, fun m hm j hj => ?_⟩
          · rw [zup_rne _ _ _ (by omega), f5 o (by omega) (by omega) (by omega)]
            exact e4 o (by omega) (by omega) (by omega) (by omega) (by omega) (by omega) (by omega)
          · rw [zup_ne (by omega)]
            exact k0
          · rw [zup_self, zup_ne (by omega), k1]
          · rw [zup_ne (by omega)]
            exact k2
          · rw [zup_ne (by omega)]
            exact k3
          · rw [zup_rne _ _ _ (by omega)]
            exact k6 m hm j hj
theorem waysAtC {m N : Nat} {v4 : Int32} {K : Nat → Nat → Int32} (H : HL 107 106 5 l μ) (hl : l.length ≤ 4) (hm : m < 5) (hv : ∀ j, j < l.length → l.getD j 0 < 16) (hi : ∀ i j, i < l.length → j < l.length → l.getD i 0 = l.getD j 0 → i = j) (hK : ∀ j, j < 5 → μ 109 (5 * m + j) = K m j) :
    (v4 = -1 → f_X9_waysAt 106 (nI m) v4 μ = some (K m 0)) ∧ (∀ j, j < l.length → v4 = nI (l.getD j 0) → f_X9_waysAt 106 (nI m) v4 μ = some (K m (j + 1))) ∧ (¬ v4 = -1 → (∀ j, j < l.length → ¬ v4 = nI (l.getD j 0)) → f_X9_waysAt 106 (nI m) v4 μ = some (-1)) := by
  have e5 : nI m * (5 : Int32) = nI (5 * m) := by
    show nI m * nI 5 = _
    rw [pk_mul, Nat.mul_comm]
  have c5 : (¬ (nI m < 0)) ∧ (nI m < (5 : Int32)) := ⟨nI_pos (by omega), nI_lt (b := 5) hm (by omega)⟩
  have ec : μ 106 5 = nI l.length := H.1
  -- the loop, from a corner at which all before are others
  have loop : ∀ (P : Int32 → Prop), ¬ v4 = -1 → (∀ j, j < l.length → v4 = nI (l.getD j 0) → P (K m (j + 1))) → ((∀ j, j < l.length → ¬ v4 = nI (l.getD j 0)) → P (-1)) → wp (f_X9_waysAt 106 (nI m) v4 μ) P := fun P hn hy hno => by
    unfold f_X9_waysAt
    refine wp_it c5 (wp_it hn (wp_bd ?_))
    refine wlp0 (fun n k (_ : Unit) => f_X9_waysAt_L27 106 (nI m) v4 μ n (nI k)) _ l.length (fun k _ => ∀ j, j < k → ¬ v4 = nI (l.getD j 0)) (by omega) () (fun j hj => by omega) ?_ ?_
    · intro n k _ hk hI ih
      have e1 : μ (106 + 1) k = nI (l.getD k 0) := H.2 k hk
      show wp (f_X9_waysAt_L27 106 (nI m) v4 μ (n + 1) (nI k)) _
      rw [f_X9_waysAt_L27, ec, nI_clamp (n := k) (by omega), e1, e5, nI_add, nI_1, nI_1]
      refine wp_ie (nI_ge hk (by omega)) (wp_g (zin_nI (by omega) (by omega)) ?_)
      by_cases c : nI (l.getD k 0) = v4
      · rw [nI_clamp (by omega)]
        refine wp_ie (fun w => w c) (wp_g (zin_nI (by omega) (by omega)) (wp_some (wp_suml (wp_some ?_))))
        rw [show μ (106 + 3) (5 * m + k + 1) = μ 109 (5 * m + (k + 1)) from rfl, hK (k + 1) (by omega)]
        exact hy k hk c.symm
      · refine wp_it c (wp_ls (ih () fun j hj => ?_))
        by_cases e : j = k
        · rw [e]
          exact fun w => c w.symm
        · exact hI j (by omega)
    · intro n _ hI
      show wp (f_X9_waysAt_L27 106 (nI m) v4 μ (n + 1) (nI l.length)) _
      rw [f_X9_waysAt_L27, ec]
      exact wp_it (nI_le (Nat.le_refl _) (by omega)) (wp_some (wp_sumr (wp_some (hno hI))))
  refine ⟨fun h => wp_eq ?_, fun j hj h => wp_eq ?_, fun h1 h2 => wp_eq ?_⟩
  · unfold f_X9_waysAt
    rw [e5, nI_clamp (by omega)]
    exact wp_it c5 (wp_ie (fun w => w h) (wp_g (zin_nI (by omega) (by omega)) (wp_some (hK 0 (by omega)))))
  · have hjv := hv j hj
    refine loop _ (by rw [h]; exact nI_nm1 (by omega)) (fun j' hj' h' => ?_) (fun w => absurd h (w j hj))
    have := hv j' hj'
    have e : l.getD j' 0 = l.getD j 0 := by rw [← nI_clamp (n := l.getD j' 0) (by omega), ← h', h, nI_clamp (by omega)]
    rw [hi j' j hj' hj e]
  · exact loop _ h1 (fun j hj h => absurd h (h2 j hj)) (fun _ => rfl)
end LOOKC
