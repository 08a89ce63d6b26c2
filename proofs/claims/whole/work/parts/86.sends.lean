/-! the reference's ways -/
def GM (q : Nat) (L : Nat → Nat) (A : Nat) (μ0 μ : zM) : Prop := LM q μ L ∧ PrM L A μ ∧ KP μ0 μ
theorem Mid.dn {L : Nat → Nat} {A k : Nat} {h : Bool} {V W : Nat → Nat} {Dn Dn' : Nat → Nat → Prop} (m : Mid L A h V W k Dn) (hd : ∀ i j, i < 3 → j < 3 → Dn' i j → Dn i j) : Mid L A h V W k Dn' :=
  ⟨m.1, m.2.1, m.2.2.1, fun u i j e hu hi hj hor hV hc => m.2.2.2 u i j e hu hi hj (hor.imp id (fun q => ⟨q.1, hd i j hi hj q.2⟩)) hV hc⟩
theorem leI {a b : Nat} (ha : a < 2 ^ 31) (hb : b < 2 ^ 31) : (if nI a ≤ nI b then nI a else nI b) = nI (if b < a then b else a) := by
  by_cases c : b < a
  · rw [if_pos c, if_neg (nI_ge c ha)]
  · rw [if_neg c, if_pos (nI_le (by omega) hb)]
section SPM
variable {q : Nat} {μ0 μ : zM} {L : Nat → Nat} {A : Nat} {h : Bool}
theorem GM.mf {μ' : zM} (g : GM q L A μ0 μ) (f : MF μ μ') : GM q L A μ0 μ' := ⟨g.1.mf f, g.2.1.congr (f.1 318 (by omega) (by omega) (by omega)), g.2.2.tr f.to2.kp⟩
theorem GM.put {k : Nat} {v : Int32} (g : GM q L A μ0 μ) : GM q L A μ0 (zup μ 321 k v) :=
  ⟨g.1.congr (zup_rne _ _ _ (by omega)) (by rw [zup_rne _ _ _ (by omega)]), g.2.1.congr (zup_rne _ _ _ (by omega)), g.2.2.tr (fun o ho => zup_rne _ _ _ (by omega))⟩
theorem priceM_cst {d : Nat} (g : PrM L A μ) (hB : LB L) (hd : d < 9) (hp : Pd L A (d / 3) (d % 3)) : ∃ e, Cst L A h (d / 3) (d % 3) e ∧ (if b2i h = 0 then μ 318 d else 1) = nI e ∧ μ 318 d < 1000000 := by
  obtain ⟨C, h1, h2⟩ := g
  rw [(h1 d hd).1]
  rcases h2 d hd with ⟨t, k1, k2, k3⟩ | ⟨k1, _⟩
  · have tl := Ptear_le hB k1
    have lt : nI (C d) < 1000000 := by
      rw [k2]
      exact nI_lt (b := 1000000) (by omega) (by omega)
    cases h with
    | true => exact ⟨1, ⟨hp, rfl⟩, rfl, lt⟩
    | false => exact ⟨t, ⟨k1, k3⟩, k2, lt⟩
  · obtain ⟨t, ht⟩ := hp
    exact absurd ht (k1 t)
theorem spreads76 {k : Nat} {V W : Nat → Nat} {f : Int32} (hO : LOk L) (g : GM q L A μ0 μ) (hk : k < 576) (hW : TabN 321 576 W μ) (hm : Mid L A h V W k (fun _ _ => False)) (hc : Chg V W f) :
    wp (f_X12_spreads_L76 310 (b2i h) (nI k) zFU f 0 μ) (fun p => GM q L A μ0 p.2 ∧ ∃ W', TabN 321 576 W' p.2 ∧ Mid L A h V W' (k + 1) (fun _ _ => False) ∧ Chg V W' p.1) := by
  have hB := hO.1
  have e4 : nI k / (4 : Int32) = nI (k / 4) := by
    show nI k / nI 4 = _
    exact pk_div (by omega) (by omega) (by omega)
  have r4 : nI k % (4 : Int32) = nI (k % 4) := by
    show nI k % nI 4 = _
    exact nI_rem (by omega) (by omega) (by omega)
  refine wlp0 (fun n d (s : Int32 × zM) => f_X12_spreads_L76 310 (b2i h) (nI k) n s.1 (nI d) s.2) _ 9 (fun d s => GM q L A μ0 s.2 ∧ ∃ W', TabN 321 576 W' s.2 ∧ Mid L A h V W' k (fun i j => 3 * i + j < d) ∧ Chg V W' s.1) (by omega) (f, μ) ⟨g, W, hW, hm.dn (fun i j _ _ w => by have w : 3 * i + j < 0 := w; omega), hc⟩ ?_ ?_
  · intro n d ⟨f1, μ1⟩ hd ⟨g1, W1, t1, m1, c1⟩ ih
    have g1 : GM q L A μ0 μ1 := g1
    have t1 : TabN 321 576 W1 μ1 := t1
    have c1 : Chg V W1 f1 := c1
    obtain ⟨w1, w2⟩ := t1 k hk
    have w1 : μ1 (310 + 11) k = nI (W1 k) := w1
    show wp (f_X12_spreads_L76 310 (b2i h) (nI k) (n + 1) f1 (nI d) μ1) _
    rw [f_X12_spreads_L76, nI_1, nI_clamp (n := d) (by omega), nI_clamp (n := k) (by omega), w1]
    by_cases c : W1 k < MU
    · have cu : W1 k < 1000000 := c
      refine wp_bd (wp_ie (nI_ge (b := 9) hd (by omega)) (wp_g (zin_nI hk (by omega)) (wp_ie (nI_ge (b := 1000000) cu (by omega)) (wp_some (wp_it rfl (wp_g (zin_nI hd (by omega)) ?_))))))
      by_cases p : Pd L A (d / 3) (d % 3)
      · obtain ⟨e, e1, e2, e3⟩ := priceM_cst (h := h) g1.2.1 hB hd p
        have ce := Cst_le hB e1
        obtain ⟨nn, hw⟩ := m1.2.1 k hk c
        have wt := Wk_ok hO nn k _ hw
        obtain ⟨x, y, _, _, _, _, _, q1, q2⟩ := nx_ok (i := d / 3) (j := d % 3) hB (by omega) (by omega) wt.2
        have ot := or4_lt (a := k % 4) (b := tc L (nxc L (k / 4) (d / 3) (d % 3))) (by omega) (tc_lt L _)
        have etn : (4 : Int32) * nI (nxc L (k / 4) (d / 3) (d % 3)) + (nI (k % 4) ||| nI (tc L (nxc L (k / 4) (d / 3) (d % 3)))) = nI (toN L k (d / 3) (d % 3)) := by
          rw [nI_or]
          show nI 4 * nI _ + _ = _
          rw [pk_mul, nI_add]
          rfl
        have tlt : toN L k (d / 3) (d % 3) < 576 := by
          unfold toN
          omega
        refine wp_bd2 (wp_it e3 ?_)
        rw [e4, r4]
        refine wp_bd2Q (cellAfterM g1.1 hB (by omega) wt.2 hd) fun r μ2 ⟨e7, f7⟩ => ?_
        have e7 : r = nI (nxc L (k / 4) (d / 3) (d % 3)) := e7
        have f7 : MF μ1 μ2 := f7
        have g2 := g1.mf f7
        have t2 : TabN 321 576 W1 μ2 := t1.congr (f7.1 321 (by omega) (by omega) (by omega))
        have k2 : μ2 (310 + 11) k = nI (W1 k) := (t2 k hk).1
        have a2 : μ2 (310 + 11) (toN L k (d / 3) (d % 3)) = nI (W1 (toN L k (d / 3) (d % 3))) := (t2 _ tlt).1
        have b2 : μ2 (310 + 8) d = μ1 318 d := by rw [show μ2 (310 + 8) = μ1 318 from f7.1 318 (by omega) (by omega) (by omega)]
        rw [e7]
        refine wp_bdE (metAtM g2.1 hB q1) ?_
        rw [etn, b2, e2, k2]
        refine wp_ls (wp_g (zin_nI hk (by omega)) (wp_ls (wp_ls ?_)))
        rw [nI_add, nI_clamp (by omega)]
        have wl := (t2 (toN L k (d / 3) (d % 3)) tlt).2
        refine wp_bdQ (Q := fun x => x = (if W1 k + e < W1 (toN L k (d / 3) (d % 3)) then 1 else f1)) ?_ (fun x hx => ?_)
        · by_cases z : W1 (toN L k (d / 3) (d % 3)) ≤ W1 k + e
          · rw [if_neg (show ¬ W1 k + e < W1 (toN L k (d / 3) (d % 3)) by omega)]
            rcases c1 with ⟨f0, _⟩ | ⟨f0, _⟩
            · refine wp_bd (wp_ie (fun w => w f0) (wp_g (zin_nI tlt (by omega)) ?_))
              rw [a2]
              exact wp_it (nI_le z (by omega)) (wp_some (wp_it rfl (wp_some f0.symm)))
            · exact wp_bd (wp_it (by rw [f0]; decide) (wp_some (wp_ie (by decide) (wp_some f0.symm))))
          · rw [if_pos (show W1 k + e < W1 (toN L k (d / 3) (d % 3)) by omega)]
            rcases c1 with ⟨f0, _⟩ | ⟨f0, _⟩
            · refine wp_bd (wp_ie (fun w => w f0) (wp_g (zin_nI tlt (by omega)) ?_))
              rw [a2]
              exact wp_ie (nI_ge (by omega) (by omega)) (wp_some (wp_ie (by decide) (wp_some rfl)))
            · exact wp_bd (wp_it (by rw [f0]; decide) (wp_some (wp_ie (by decide) (wp_some rfl))))
        · have tp := t2.put (x := nI (W1 k + e)) tlt rfl (by omega)
          refine wp_g (zin_nI tlt (by omega)) (wp_ls (wp_ls (wp_some (wp_ls (ih (x, _) ⟨g2.put, vmin W1 (toN L k (d / 3) (d % 3)) (W1 k + e), tp, ?_, c1.step tlt m1.1 hx⟩)))))
          exact m1.step hO (by omega) (by omega) hk e1 c (fun e' w => Cst_one e1 w) (fun i' j' _ _ w => by
            have w : 3 * i' + j' < d + 1 := w
            by_cases z : 3 * i' + j' = d
            · exact Or.inr ⟨by omega, by omega⟩
            · exact Or.inl (by show 3 * i' + j' < d; omega))
      · refine wp_bd2 (wp_ie (Int32.not_lt.mpr ((g1.2.1.none hB hd).mpr p)) (wp_some (wp_ls (ih (f1, μ1) ⟨g1, W1, t1, m1.skip p (fun i' j' _ _ w => ?_), c1⟩))))
        have w : 3 * i' + j' < d + 1 := w
        by_cases z : 3 * i' + j' = d
        · exact Or.inr ⟨by omega, by omega⟩
        · exact Or.inl (by show 3 * i' + j' < d; omega)
    · have cu : 1000000 ≤ W1 k := Nat.le_of_not_lt c
      refine wp_bd (wp_ie (nI_ge (b := 9) hd (by omega)) (wp_g (zin_nI hk (by omega)) (wp_it (nI_le (a := 1000000) cu (by omega)) (wp_some (wp_ie (by decide) (wp_some ⟨g1, W1, t1, m1.next (fun w => ?_) (fun _ _ _ _ w => w), c1⟩))))))
      have := m1.1 k
      have w : V k < 1000000 := w
      omega
  · intro n s ⟨g1, W1, t1, m1, c1⟩
    show wp (f_X12_spreads_L76 310 (b2i h) (nI k) (n + 1) s.1 (nI 9) s.2) _
    rw [f_X12_spreads_L76]
    exact wp_bd (wp_it (nI_le (a := 9) (Nat.le_refl _) (by omega)) (wp_some (wp_ie (by decide) (wp_some ⟨g1, W1, t1, m1.next (fun _ i j _ _ => by show 3 * i + j < 9; omega) (fun _ _ _ _ w => w), c1⟩))))
theorem spreads65 {V : Nat → Nat} (hO : LOk L) (g : GM q L A μ0 μ) (hV : TabN 321 576 V μ) (hs : SndV L A h V) :
    wp (f_X12_spreads_L65 310 (b2i h) zFU 0 0 μ) (fun p => GM q L A μ0 p.2 ∧ ∃ V', TabN 321 576 V' p.2 ∧ Rnd L A h V V' ∧ Chg V V' p.1) := by
  refine wlp0 (fun n k (s : Int32 × zM) => f_X12_spreads_L65 310 (b2i h) n s.1 (nI k) s.2) _ 576 (fun k s => GM q L A μ0 s.2 ∧ ∃ W, TabN 321 576 W s.2 ∧ Mid L A h V W k (fun _ _ => False) ∧ Chg V W s.1) (by omega) (0, μ) ⟨g, V, hV, ⟨fun _ => Nat.le_refl _, hs, fun v hv => (hV v hv).2, fun u i j e hu hi hj hor => by
      rcases hor with w | w
      · omega
      · exact w.2.elim⟩, Or.inl ⟨rfl, fun _ _ => rfl⟩⟩ ?_ ?_
  · intro n k ⟨f, μ1⟩ hk ⟨g1, W, t1, m1, c1⟩ ih
    show wp (f_X12_spreads_L65 310 (b2i h) (n + 1) f (nI k) μ1) _
    rw [f_X12_spreads_L65, nI_1]
    exact wp_ie (nI_ge (b := 576) hk (by omega)) (wp_bd2Q (spreads76 hO g1 hk t1 m1 c1) fun r μ2 ⟨g2, W2, t2, m2, c2⟩ => wp_ls (ih (r, μ2) ⟨g2, W2, t2, m2, c2⟩))
  · intro n s ⟨g1, W, t1, m1, c1⟩
    show wp (f_X12_spreads_L65 310 (b2i h) (n + 1) s.1 (nI 576) s.2) _
    rw [f_X12_spreads_L65]
    exact wp_it (nI_le (a := 576) (Nat.le_refl _) (by omega)) (wp_some ⟨g1, W, t1, m1.rnd, c1⟩)
theorem spreads56 (hO : LOk L) : ∀ (m : Nat) (μ : zM) (V : Nat → Nat) (n : Nat), GM q L A μ0 μ → Tb 321 L A h V μ → nfc L A h V (Dst L A h) 576 ≤ m → m + 3 ≤ n →
    wp (f_X12_spreads_L56 310 (b2i h) n 1 μ) (fun μ' => GM q L A μ0 μ' ∧ TabN 321 576 (Dst L A h) μ') := by
  intro m
  induction m with
  | zero =>
    intro μ V n g t hm hn
    obtain ⟨n', rfl⟩ : ∃ n', n = n' + 2 := ⟨n - 2, by omega⟩
    rw [f_X12_spreads_L56]
    refine wp_ie (by decide) (wp_bd2Q (spreads65 hO g t.1 t.2.1) fun r μ1 ⟨g1, V', t1, r1, c1⟩ => ?_)
    have g1 : GM q L A μ0 μ1 := g1
    have t1 : TabN 321 576 V' μ1 := t1
    have c1 : Chg V V' r := c1
    rcases c1 with ⟨r0, w⟩ | ⟨r0, v, v1, v2⟩
    · rw [r0, f_X12_spreads_L56]
      refine wp_it rfl (wp_some ⟨g1, fun J hJ => ?_⟩)
      rw [← all_of_same hO t r1 w J hJ]
      exact t1 J hJ
    · have hne : ¬ ∀ v, v < 576 → V v = Dst L A h v := fun w => by
        have h1 := w v v1
        have h2 := D_le r1.2.1 r1.2.2.1 v1
        omega
      have hd := round_drop hO t.2.1 (fun v hv => (t.1 v hv).2) t.2.2 r1 hne
      omega
  | succ m ih =>
    intro μ V n g t hm hn
    obtain ⟨n', rfl⟩ : ∃ n', n = n' + 2 := ⟨n - 2, by omega⟩
    rw [f_X12_spreads_L56]
    refine wp_ie (by decide) (wp_bd2Q (spreads65 hO g t.1 t.2.1) fun r μ1 ⟨g1, V', t1, r1, c1⟩ => ?_)
    have g1 : GM q L A μ0 μ1 := g1
    have t1 : TabN 321 576 V' μ1 := t1
    have c1 : Chg V V' r := c1
    rcases c1 with ⟨r0, w⟩ | ⟨r0, v, v1, v2⟩
    · rw [r0, f_X12_spreads_L56]
      refine wp_it rfl (wp_some ⟨g1, fun J hJ => ?_⟩)
      rw [← all_of_same hO t r1 w J hJ]
      exact t1 J hJ
    · have hne : ¬ ∀ v, v < 576 → V v = Dst L A h v := fun w => by
        have h1 := w v v1
        have h2 := D_le r1.2.1 r1.2.2.1 v1
        omega
      have hd := round_drop hO t.2.1 (fun v hv => (t.1 v hv).2) t.2.2 r1 hne
      rw [r0]
      exact ih μ1 V' (n' + 1) g1 (t.rnd r1 t1) (by omega) (by omega)
theorem spreadsM (hO : LOk L) (g : GM q L A μ0 μ) : wp (f_X12_spreads 310 (b2i h) μ) (fun μ' => GM q L A μ0 μ' ∧ TabN 321 576 (Dst L A h) μ') := by
  have hB := hO.1
  have sw := start_wat hO
  have sl := stN_lt hO
  unfold f_X12_spreads
  refine wp_bdQ (Q := fun μ' => GM q L A μ0 μ' ∧ TabN 321 576 (fun _ => 1000000) μ') ?_ (fun μ1 ⟨g1, t1⟩ => ?_)
  · refine wlp0 (fun n K μ' => f_X12_spreads_L2 310 (b2i h) n (nI K) μ') _ 576 (fun K μ' => GM q L A μ0 μ' ∧ TabN 321 K (fun _ => 1000000) μ') (by omega) μ ⟨g, fun J hJ => by omega⟩ ?_ ?_
    · intro n K μ1 hK ⟨i1, i2⟩ ih
      show wp (f_X12_spreads_L2 310 (b2i h) (n + 1) (nI K) μ1) _
      rw [f_X12_spreads_L2, nI_clamp (by omega), nI_1]
      refine wp_ie (nI_ge (b := 576) hK (by omega)) (wp_g (zin_nI (by omega) (by omega)) (wp_ls (wp_ls (ih _ ⟨i1.put, fun J hJ => ?_⟩))))
      by_cases e' : J = K
      · rw [e']
        exact ⟨zup_self _ _ _ _, Nat.le_refl _⟩
      · rw [zup_ne (by omega)]
        exact i2 J (by omega)
    · intro n μ1 hI
      show wp (f_X12_spreads_L2 310 (b2i h) (n + 1) (nI 576) μ1) _
      rw [f_X12_spreads_L2]
      exact wp_it (nI_le (a := 576) (Nat.le_refl _) (by omega)) (wp_some hI)
  · have es : (12 : Int32) * nI (L 5) + nI (L 4) = nI (12 * L 5 + L 4) := by
      show nI 12 * nI (L 5) + nI (L 4) = _
      rw [pk_mul, nI_add]
    have e4 : (4 : Int32) * nI (12 * L 5 + L 4) + nI (tc L (12 * L 5 + L 4)) = nI (stN L) := by
      show nI 4 * nI _ + _ = _
      rw [pk_mul, nI_add]
      rfl
    refine wp_bdE (ofM 5 g1.1 rfl (by omega)) (wp_bdE (ofM 4 g1.1 rfl (by omega)) ?_)
    rw [es]
    refine wp_ls (wp_bdE (metAtM g1.1 hB sw.1) ?_)
    rw [e4, nI_clamp (by omega)]
    refine wp_g (zin_nI sl (by omega)) (wp_ls ?_)
    have t2 : Tb 321 L A h (fun J => if J = stN L then 0 else 1000000) (zup μ1 (310 + 11) (stN L) 0) := by
      refine ⟨fun J hJ => ?_, fun v hv hlt => ?_, if_pos rfl⟩
      · by_cases e : J = stN L
        · show zup μ1 321 _ _ 321 J = nI (if J = stN L then 0 else 1000000) ∧ (if J = stN L then 0 else 1000000) ≤ _
          rw [if_pos e, e, zup_self]
          exact ⟨rfl, by omega⟩
        · show zup μ1 321 _ _ 321 J = nI (if J = stN L then 0 else 1000000) ∧ (if J = stN L then 0 else 1000000) ≤ _
          rw [if_neg e, zup_ne (by omega)]
          exact t1 J hJ
      · have hlt : (if v = stN L then 0 else 1000000) < MU := hlt
        by_cases e : v = stN L
        · exact ⟨0, e, if_pos e⟩
        · rw [if_neg e] at hlt
          exact absurd hlt (by unfold MU; omega)
    have g2 : GM q L A μ0 (zup μ1 (310 + 11) (stN L) 0) := g1.put
    exact wp_bdQ (spreads56 (h := h) hO 576 _ _ zFU g2 t2 (nfc_le 576) (by unfold zFU; omega)) fun μ3 h3 => wp_some h3
theorem bothM {V : Nat → Nat} (t : TabN 321 576 V μ) : f_X12_both 310 μ = some (mnAns (mnf V 144)) := by
  refine wp_eq ?_
  unfold f_X12_both
  refine wp_bdQ (Q := fun x => x = nI (mnf V 144)) ?_ (fun x hx => wp_ls (wp_some ?_))
  · refine wlp0 (fun n c x => f_X12_both_L6 310 μ n x (nI c)) _ 144 (fun c x => x = nI (mnf V c)) (by omega) (1000000 : Int32) rfl ?_ ?_
    · intro n c x hc hx ih
      have ei : (4 : Int32) * nI c + (3 : Int32) = nI (4 * c + 3) := by
        show nI 4 * nI c + nI 3 = _
        rw [pk_mul, nI_add]
      obtain ⟨v1, v2⟩ := t (4 * c + 3) (by omega)
      have v1 : μ (310 + 11) (4 * c + 3) = nI (V (4 * c + 3)) := v1
      have ml := mnf_le V c
      show wp (f_X12_both_L6 310 μ (n + 1) x (nI c)) _
      rw [f_X12_both_L6, ei, nI_clamp (by omega), v1, hx, leI (by omega) (by omega), nI_1]
      exact wp_ie (nI_ge (b := 144) hc (by omega)) (wp_g (zin_nI (by omega) (by omega)) (wp_ls (wp_ls (ih _ rfl))))
    · intro n x hx
      show wp (f_X12_both_L6 310 μ (n + 1) x (nI 144)) _
      rw [f_X12_both_L6]
      exact wp_it (nI_le (a := 144) (Nat.le_refl _) (by omega)) (wp_some hx)
  · have ml := mnf_le V 144
    generalize mnf V 144 = m at hx ml ⊢
    rw [hx]
    exact ansM ml
theorem soonM {v : Int32} (l : LM q μ L) (hO : LOk L) (hv : butOk v A) : wp (f_X12_soon 310 v μ) (fun p => p.1 = mnAns (mnf (Dst L A true) 144) ∧ GM q L A μ p.2) := by
  unfold f_X12_soon
  refine wp_bdQ (pricesM l hO.1 hv) fun μ1 ⟨f1, p1⟩ => ?_
  have g1 : GM q L A μ μ1 := ⟨l.congr (f1 311 (by omega) (by omega) (by omega)) (by rw [f1 310 (by omega) (by omega) (by omega)]), p1, fun o ho => f1 o (by omega) (by omega) (by omega)⟩
  refine wp_bdQ (spreadsM (h := true) hO g1) fun μ2 ⟨g2, t2⟩ => ?_
  have e2 := bothM t2
  generalize mnf (Dst L A true) 144 = m at e2 ⊢
  exact wp_bdE e2 (wp_some ⟨rfl, g2⟩)
end SPM
/-! who may stay ashore -/
theorem Wk_mono {L : Nat → Nat} {A : Nat} : ∀ n v t, Wk L A true n v t → Wk L 0 true n v t
  | 0, _, _, h => h
  | n + 1, v, t, h => by
    obtain ⟨u, t', e, h1, ⟨i, j, hi, hj, hc, hv⟩, h3⟩ := h
    refine ⟨u, t', e, Wk_mono n u t' h1, ⟨i, j, hi, hj, ?_, hv⟩, h3⟩
    obtain ⟨⟨tt, fx, fy, q1, q2⟩, q3⟩ := hc
    exact ⟨⟨tt, fx, fy, fun m hm => ⟨(q1 m hm).1, (q1 m hm).2.1, (q1 m hm).2.2.1, fun _ => Nat.zero_testBit m⟩, q2⟩, q3⟩
theorem Dst_mono (L : Nat → Nat) (A v : Nat) : Dst L 0 true v ≤ Dst L A true v := by
  by_cases c : Dst L A true v < MU
  · obtain ⟨n, hn⟩ := (Dst_ok L A true v).1 c
    exact (Dst_ok L 0 true v).2.1 n _ (Wk_mono n v _ hn)
  · have := (Dst_ok L 0 true v).2.2
    omega
theorem mnf_mono {V V' : Nat → Nat} (h : ∀ v, V v ≤ V' v) : ∀ n, mnf V n ≤ mnf V' n
  | 0 => Nat.le_refl _
  | n + 1 => by
    have ih := mnf_mono h n
    have := h (4 * n + 3)
    unfold mnf
    split <;> split <;> omega
noncomputable def idA (L : Nat → Nat) (A : Nat) : Nat := mnf (Dst L A true) 144
noncomputable def idN (L : Nat → Nat) : Nat → Nat
  | 0 => 0
  | m + 1 => if idA L (2 ^ m) = idA L 0 then idN L m ||| 2 ^ m else idN L m
noncomputable def idS (L : Nat → Nat) : Int32 := if idA L 0 < 1000000 then nI (idN L (L 14)) else 0
theorem mnAns_n1 {m : Nat} (h : m ≤ 1000000) : mnAns m = -1 ↔ ¬ m < 1000000 := by
  unfold mnAns
  by_cases c : m < 1000000
  · rw [if_pos c]
    exact ⟨fun w => absurd w (nI_nm1 (by omega)), fun w => absurd c w⟩
  · rw [if_neg c]
    exact ⟨fun _ => c, fun _ => rfl⟩
theorem mnAns_inj {a b : Nat} (ha : a ≤ 1000000) (hb : b ≤ 1000000) (h : mnAns a = mnAns b) : a = b := by
  by_cases c : a < 1000000
  · by_cases d : b < 1000000
    · unfold mnAns at h
      rw [if_pos c, if_pos d] at h
      rw [← nI_clamp (n := a) (by omega), h, nI_clamp (by omega)]
    · rw [(mnAns_n1 hb).mpr d] at h
      exact absurd c ((mnAns_n1 ha).mp h)
  · rw [(mnAns_n1 ha).mpr c] at h
    have := (mnAns_n1 hb).mp h.symm
    omega
theorem idleC {la : Nat} {μ : zM} {L : Nat → Nat} (hL : LC la μ L) (hO : LOk L) (hr : la + 14 < 93) (g : Grd L 0 μ) (l0 : LnsP L 0 μ) (l1 : LnsP L 1 μ) :
    wp (f_X0_idleMourners 93 la μ) (fun p => p.1 = idS L ∧ ∀ o, o ≠ 95 → o ≠ 98 → p.2 o = μ o) := by
  have hb5 := hO.1.2.1.2.2.2.1
  have ia : idA L 0 ≤ 1000000 := mnf_le _ _
  unfold f_X0_idleMourners
  refine wp_bd2Q (leastToTouchC (h := true) hL hO hr g) fun r μ1 ⟨er, f1⟩ => ?_
  have er : r = mnAns (idA L 0) := er
  have f1 : ∀ o, o ≠ 98 → μ1 o = μ o := f1
  refine wp_bd2Q (Q := fun p => p.1 = idS L ∧ ∀ o, o ≠ 95 → o ≠ 98 → p.2 o = μ o) ?_ (fun x μ2 hx => wp_some hx)
  have z14 : ∀ μ', (∀ o, o ≠ 95 → o ≠ 98 → μ' o = μ o) → LC la μ' L := fun μ' f => hL.congr (fun o h1 h2 => f o (by omega) (by omega))
  by_cases c : idA L 0 < 1000000
  · have rn : ¬ r = -1 := fun w => (mnAns_n1 ia).mp (er ▸ w) c
    have eS : idS L = nI (idN L (L 14)) := if_pos c
    rw [eS]
    refine wlp0 (fun n m (s : Int32 × zM) => f_X0_idleMourners_L12 93 la r n s.1 (nI m) s.2) _ (L 14) (fun m s => s.1 = nI (idN L m) ∧ ∀ o, o ≠ 95 → o ≠ 98 → s.2 o = μ o) (by omega) (0, μ1) ⟨rfl, fun o _ h2 => f1 o h2⟩ ?_ ?_
    · intro n m ⟨y, μ2⟩ hm ⟨i1, i2⟩ ih
      have i1 : y = nI (idN L m) := i1
      have i2 : ∀ o, o ≠ 95 → o ≠ 98 → μ2 o = μ o := i2
      have L2 := z14 μ2 i2
      have e14 : μ2 (la + 8) 2 = nI (L 14) := L2.2.2.1.2.1.2.2.2.1
      have ib : idA L (2 ^ m) ≤ 1000000 := mnf_le _ _
      have hp : 2 ^ m < 32 := by
        have : 2 ^ m ≤ 2 ^ 4 := Nat.pow_le_pow_right (by omega) (by omega)
        omega
      have h0 : LnsP L 0 μ2 := fun s hs => by rw [i2 94 (by omega) (by omega)]; exact l0 s hs
      have h1 : LnsP L 1 μ2 := fun s hs => by rw [i2 94 (by omega) (by omega)]; exact l1 s hs
      show wp (f_X0_idleMourners_L12 93 la r (n + 1) y (nI m) μ2) _
      rw [f_X0_idleMourners_L12, e14, one_shl (by omega), nI_1]
      refine wp_it ⟨nI_ge hm (by omega), rn⟩ (wp_bdQ (priceWithoutC L2 hr hp h0 h1) fun μ3 ⟨f3, p3⟩ => ?_)
      have L3 : LC la μ3 L := L2.congr (fun o h1 h2 => f3 o (by omega))
      have g3 : Grd L (2 ^ m) μ3 := by
        refine ⟨p3, fun c i j hi hj hlt hw => ?_, fun c hc => ?_⟩
        · rw [f3 96 (by omega), i2 96 (by omega) (by omega)]
          exact g.2.1 c i j hi hj hlt hw
        · rw [f3 97 (by omega), i2 97 (by omega) (by omega)]
          exact g.2.2 c hc
      refine wp_bd2Q (leastToTouchC (h := true) L3 hO hr g3) fun r2 μ4 ⟨e4, f4⟩ => ?_
      have e4 : r2 = mnAns (idA L (2 ^ m)) := e4
      have f4 : ∀ o, o ≠ 98 → μ4 o = μ3 o := f4
      refine wp_l fun x hx => wp_ls (ih (x, μ4) ⟨?_, fun o h1 h2 => by show μ4 o = _; rw [f4 o h2, f3 o h1]; exact i2 o h1 h2⟩)
      show x = nI (if idA L (2 ^ m) = idA L 0 then idN L m ||| 2 ^ m else idN L m)
      rw [hx]
      by_cases z : idA L (2 ^ m) = idA L 0
      · rw [if_pos z, if_neg (fun w => w (by rw [e4, er, z])), i1]
        exact nI_or _ _
      · rw [if_neg z, if_pos (fun w => z (mnAns_inj ib ia (by rw [← e4, ← er]; exact w))), i1]
    · intro n s ⟨i1, i2⟩
      have L2 := z14 s.2 i2
      have e14 : s.2 (la + 8) 2 = nI (L 14) := L2.2.2.1.2.1.2.2.2.1
      show wp (f_X0_idleMourners_L12 93 la r (n + 1) s.1 (nI (L 14)) s.2) _
      rw [f_X0_idleMourners_L12, e14]
      exact wp_ie (fun w => w.1 (nI_le (Nat.le_refl _) (by omega))) (wp_some ⟨i1, i2⟩)
  · have rn : r = -1 := er.trans ((mnAns_n1 ia).mpr c)
    have eS : idS L = 0 := if_neg c
    rw [eS]
    show wp (f_X0_idleMourners_L12 93 la r (999999 + 1) 0 0 μ1) _
    rw [f_X0_idleMourners_L12]
    exact wp_ie (fun w => w.2 rn) (wp_some ⟨rfl, fun o _ h2 => f1 o h2⟩)
theorem sends52 {q : Nat} {μ0 μ : zM} {L : Nat → Nat} {r : Int32} (hO : LOk L) (er : r = mnAns (idA L 0)) (l : LM q μ L) (k0 : KP μ0 μ) :
    wp (f_X12_sends_L52 310 r zFU 0 0 μ) (fun p => p.1 = idS L ∧ KP μ0 p.2) := by
  have hb5 := hO.1.2.1.2.2.2.1
  have ia : idA L 0 ≤ 1000000 := mnf_le _ _
  by_cases c : idA L 0 < 1000000
  · have rn : ¬ r = -1 := fun w => (mnAns_n1 ia).mp (er ▸ w) c
    have eS : idS L = nI (idN L (L 14)) := if_pos c
    have er2 : r = nI (idA L 0) := er.trans (if_pos c)
    rw [eS]
    refine wlp0 (fun n m (s : Int32 × zM) => f_X12_sends_L52 310 r n s.1 (nI m) s.2) _ (L 14) (fun m s => s.1 = nI (idN L m) ∧ LM q s.2 L ∧ KP μ0 s.2) (by omega) (0, μ) ⟨rfl, l, k0⟩ ?_ ?_
    · intro n m ⟨y, μ2⟩ hm ⟨i1, i2, i3⟩ ih
      have i1 : y = nI (idN L m) := i1
      have i2 : LM q μ2 L := i2
      have i3 : KP μ0 μ2 := i3
      have ib : idA L (2 ^ m) ≤ 1000000 := mnf_le _ _
      have im : idA L 0 ≤ idA L (2 ^ m) := mnf_mono (fun v => Dst_mono L (2 ^ m) v) 144
      show wp (f_X12_sends_L52 310 r (n + 1) y (nI m) μ2) _
      rw [f_X12_sends_L52, one_shl (by omega), nI_1]
      refine wp_bdE (mournersM i2) (wp_it ⟨nI_ge hm (by omega), rn⟩ (wp_bd2Q (soonM i2 hO (butOk_one (by omega))) fun r2 μ3 ⟨e3, g3⟩ => ?_))
      have e3 : r2 = mnAns (idA L (2 ^ m)) := e3
      have g3 : GM q L (2 ^ m) μ2 μ3 := g3
      refine wp_l fun x hx => wp_ls (wp_ls (ih (_, μ3) ⟨?_, g3.1, i3.tr g3.2.2⟩))
      show y ||| x = nI (if idA L (2 ^ m) = idA L 0 then idN L m ||| 2 ^ m else idN L m)
      rw [hx, i1]
      by_cases z : idA L (2 ^ m) = idA L 0
      · have e5 : r2 = nI (idA L 0) := by rw [e3, z]; exact if_pos c
        rw [if_pos z, if_pos ⟨by rw [e5, ← er2]; exact rn, by rw [e5, er2]; exact nI_nlt (Nat.le_refl _) (by omega)⟩]
        exact nI_or _ _
      · rw [if_neg z, if_neg (fun w => ?_)]
        · show nI _ ||| nI 0 = _
          rw [nI_or, Nat.or_zero]
        · have d : idA L (2 ^ m) < 1000000 := Classical.byContradiction fun w2 => w.1 (by rw [e3]; exact (mnAns_n1 ib).mpr w2)
          have e5 : r2 = nI (idA L (2 ^ m)) := e3.trans (if_pos d)
          refine w.2 ?_
          rw [e5, er2]
          exact nI_lt (by omega) (by omega)
    · intro n s ⟨i1, i2, i3⟩
      show wp (f_X12_sends_L52 310 r (n + 1) s.1 (nI (L 14)) s.2) _
      rw [f_X12_sends_L52]
      exact wp_bdE (mournersM i2) (wp_ie (fun w => w.1 (nI_le (Nat.le_refl _) (by omega))) (wp_some ⟨i1, i3⟩))
  · have rn : r = -1 := er.trans ((mnAns_n1 ia).mpr c)
    have eS : idS L = 0 := if_neg c
    rw [eS]
    show wp (f_X12_sends_L52 310 r (999999 + 1) 0 0 μ) _
    rw [f_X12_sends_L52]
    exact wp_bdE (mournersM l) (wp_ie (fun w => w.2 rn) (wp_some ⟨rfl, k0⟩))
/-- the class's rows, made ready -/
theorem readyC {la : Nat} {μ : zM} {L : Nat → Nat} {β : Type} {f : zM → Option β} {P : β → Prop} (hL : LC la μ L) (hr : la + 14 < 93)
    (k : ∀ μ', KP μ μ' → LC la μ' L → Grd L 0 μ' → LnsP L 0 μ' → LnsP L 1 μ' → wp (f μ') P) : wp (zbd (f_X0_weigh 93 la μ) fun μ7 => zbd (f_X0_chart 93 la μ7) fun μ8 => f μ8) P := by
  refine wp_bdQ (weighC hL hr) fun μ3 ⟨f3, a3, b3, g3⟩ => ?_
  have L3 : LC la μ3 L := hL.congr (fun o h1 h2 => f3 o (by omega) (by omega))
  refine wp_bdQ (chartC L3 hr) fun μ4 ⟨f4, n4, t4⟩ => ?_
  have L4 : LC la μ4 L := L3.congr (fun o h1 h2 => f4 o (by omega) (by omega) (by omega) (by omega) (by omega))
  have e94 : μ4 94 = μ3 94 := f4 94 (by omega) (by omega) (by omega) (by omega) (by omega)
  refine k μ4 (fun o ho => by rw [f4 o (by omega) (by omega) (by omega) (by omega) (by omega), f3 o (by omega) (by omega)]) L4 ⟨fun d hd => ?_, n4, t4⟩ (fun s hs => ?_) (fun s hs => ?_)
  · rw [f4 95 (by omega) (by omega) (by omega) (by omega) (by omega)]
    exact g3 d hd
  · rw [e94]
    exact a3 s hs
  · rw [e94]
    exact b3 s hs
theorem sends_same (v1 v2 : Int32) : Same (f_X11_sends 0 v1 v2) (f_X12_sends 310 v1 v2) := by
  refine Same.of fun μ hI => ?_
  unfold f_X11_sends
  rcases lake_cases hI v1 with ⟨k, L, hk, hL, e1, e2⟩ | ⟨e1, e2⟩
  · have z1 : zgn (6 + 15 * k) 1 = true := by unfold zgn; rw [zlk_kd k hk]; rfl
    refine wp_bdE e1 (wp_bd (wp_cs (wp_g z1 ?_)))
    by_cases c : (¬ (v2 < 0)) ∧ (v2 ≤ (2 : Int32))
    · have cr : (¬ ((1 : Int32) = 0)) ∧ (¬ (f_X12_isIn v2 (0 : Int32) (2 : Int32)) = 0) := ⟨by decide, inY.mpr ⟨c.1, Int32.not_lt.mpr c.2⟩⟩
      have ref : ∀ (μ' : zM) (P : Int32 × zM → Prop), μ' 311 = μ 311 →
          (∀ r μ5 μ6, r = mnAns (idA L 0) → GM (610 + 109 * k) L 0 μ5 μ6 → KP μ' μ5 → wp (if ¬ v2 = 0 then
      if ¬ v2 = (1 : Int32) then
        zbd2 (f_X12_sends_L52 310 r zFU (0 : Int32) (0 : Int32) μ6) fun x25 μ26 =>
        some (x25, μ26)
      else
        zbd (f_X12_spreads 310 (0 : Int32) μ6) fun μ27 =>
        zbd (f_X12_both 310 μ27) fun r28 =>
        some (r28, μ27)
    else
      some (r, μ6)) P) →
          wp (f_X12_sends 310 v1 v2 μ') P := by
        intro μ' P h311 hk2
        have l2 : LM (610 + 109 * k) (zup μ' 310 10 (nI (610 + 109 * k))) L := ⟨by omega, zup_self _ _ _ _, fun i hi => by rw [zup_ne (by omega), h311]; exact hL.2.2 i hi⟩
        have k2 : KP μ' (zup μ' 310 10 (nI (610 + 109 * k))) := zup310.kp
        unfold f_X12_sends
        exact wp_bd2 (wp_of (e2 μ' h311) (wp_it cr (wp_bd2Q (soonM l2 hL.1 butOk_none) fun r μ6 ⟨er, g6⟩ => hk2 r _ μ6 er g6 k2)))
      refine wp_it c (readyC hL.2.1 (by omega) fun μ4 k4 L4 g4 a4 b4 => ?_)
      by_cases c2 : v2 = 2
      · refine wp_ie (fun w => w c2) (wp_bd2Q (idleC L4 hL.1 (by omega) g4 a4 b4) fun x μ5 ⟨e5, f5⟩ => ?_)
        have e5 : x = idS L := e5
        have f5 : ∀ o, o ≠ 95 → o ≠ 98 → μ5 o = μ4 o := f5
        have k5 : KP μ μ5 := k4.tr (fun o ho => f5 o (by omega) (by omega))
        refine wp_some (wp_suml (wp_some ⟨k5, ref μ5 _ (k5 311 (by omega)) fun r μ6 μ7 er g7 k6 => ?_⟩))
        refine wp_it (by rw [c2]; decide) (wp_it (by rw [c2]; decide) (wp_bd2Q (sends52 (μ0 := μ5) hL.1 er g7.1 (k6.tr g7.2.2)) fun y μ8 ⟨e8, k8⟩ => wp_some ⟨?_, k8⟩))
        exact e8.trans e5.symm
      · refine wp_it c2 ?_
        by_cases c0 : v2 = 0
        · rw [if_neg (fun w => w c0)]
          refine wp_ls (wp_bd2Q (leastToTouchC (h := true) L4 hL.1 (by omega) g4) fun x μ5 ⟨e5, f5⟩ => ?_)
          have e5 : x = mnAns (idA L 0) := e5
          have f5 : ∀ o, o ≠ 98 → μ5 o = μ4 o := f5
          have k5 : KP μ μ5 := k4.tr (fun o ho => f5 o (by omega))
          refine wp_some (wp_suml (wp_some ⟨k5, ref μ5 _ (k5 311 (by omega)) fun r μ6 μ7 er g7 k6 => ?_⟩))
          exact wp_ie (fun w => w c0) (wp_some ⟨er.trans e5.symm, k6.tr g7.2.2⟩)
        · rw [if_pos c0]
          refine wp_ls (wp_bd2Q (leastToTouchC (h := false) L4 hL.1 (by omega) g4) fun x μ5 ⟨e5, f5⟩ => ?_)
          have e5 : x = mnAns (mnf (Dst L 0 false) 144) := e5
          have f5 : ∀ o, o ≠ 98 → μ5 o = μ4 o := f5
          have k5 : KP μ μ5 := k4.tr (fun o ho => f5 o (by omega))
          refine wp_some (wp_suml (wp_some ⟨k5, ref μ5 _ (k5 311 (by omega)) fun r μ6 μ7 er g7 k6 => ?_⟩))
          have c1 : v2 = 1 := by
            obtain ⟨n, n1, n2⟩ := nI_rng (b := 2) (by omega) c.1 (Int32.not_lt.mpr c.2)
            have : n = 0 ∨ n = 1 ∨ n = 2 := by omega
            rcases this with w | w | w
            · exact absurd (by rw [n2, w]; rfl) c0
            · rw [n2, w]
              rfl
            · exact absurd (by rw [n2, w]; rfl) c2
          refine wp_it c0 (wp_ie (fun w => w c1) (wp_bdQ (spreadsM (h := false) hL.1 g7) fun μ8 ⟨g8, t8⟩ => ?_))
          have e8 := bothM t8
          generalize mnf (Dst L 0 false) 144 = m at e8 e5
          exact wp_bdE e8 (wp_some ⟨e5.symm, k6.tr g8.2.2⟩)
    · refine wp_ie c (wp_some (wp_sumr (wp_some ⟨KP.rf μ, ?_⟩)))
      unfold f_X12_sends
      refine wp_bd2 (wp_of (e2 μ rfl) (wp_ie (fun w => c ?_) (wp_some ⟨rfl, zup310.kp⟩)))
      exact ⟨(inY.mp w.2).1, Int32.not_lt.mp (inY.mp w.2).2⟩
  · refine wp_bdE e1 (wp_bd (wp_cn (wp_some (wp_sumr (wp_some ⟨KP.rf μ, ?_⟩)))))
    unfold f_X12_sends
    exact wp_bd2 (wp_of (e2 μ rfl) (wp_ie (fun w => w.1 rfl) (wp_some ⟨rfl, KP.rf μ⟩)))
theorem thrift_same (v1 v2 v3 : Int32) : Same (f_X11_thrift 0 v1 v2 v3) (f_X12_thrift 310 v1 v2 v3) := by
  refine Same.of fun μ hI => ?_
  unfold f_X11_thrift
  rcases lake_cases hI v1 with ⟨k, L, hk, hL, e1, e2⟩ | ⟨e1, e2⟩
  · have z1 : zgn (6 + 15 * k) 1 = true := by unfold zgn; rw [zlk_kd k hk]; rfl
    have hB := hL.1.1
    have w0 := hB.1.1
    have w1 := hB.1.2.1
    refine wp_bdE e1 (wp_bd (wp_cs (wp_g z1 ?_)))
    have ref : ∀ (μ' : zM) (P : Int32 × zM → Prop), μ' 311 = μ 311 →
        ((¬ ∃ x y : Nat, v2 = nI x ∧ v3 = nI y ∧ x < L 0 ∧ y < L 1) → ∀ μ2, KP μ' μ2 → P (-1, μ2)) →
        (∀ μ2, KP μ' μ2 → ∀ x y : Nat, v2 = nI x → v3 = nI y → x < L 0 → y < L 1 → P (mnAns (mnc (Dst L 0 false) (12 * y + x) 4), μ2)) →
        wp (f_X12_thrift 310 v1 v2 v3 μ') P := by
      intro μ' P h311 hno hyes
      have l2 : LM (610 + 109 * k) (zup μ' 310 10 (nI (610 + 109 * k))) L := ⟨by omega, zup_self _ _ _ _, fun i hi => by rw [zup_ne (by omega), h311]; exact hL.2.2 i hi⟩
      have k2 : KP μ' (zup μ' 310 10 (nI (610 + 109 * k))) := zup310.kp
      unfold f_X12_thrift
      refine wp_bd2 (wp_of (e2 μ' h311) ?_)
      refine wp_bd (wp_ie i10 (wp_bdE (ofM 0 l2 rfl (by omega)) ?_))
      by_cases i3 : f_X12_isIn v2 0 (nI (L 0) - 1) = 0
      · refine wp_it i3 (wp_some (wp_ie (by decide) (wp_some (hno (fun ⟨x, y, hx, _, x1, _⟩ => ?_) _ k2))))
        exact (inM (by omega) (by omega)).mpr ⟨x, x1, hx⟩ i3
      · refine wp_ie i3 (wp_bdE (ofM 1 l2 rfl (by omega)) ?_)
        by_cases i4 : f_X12_isIn v3 0 (nI (L 1) - 1) = 0
        · refine wp_ie (fun w => w i4) (wp_some (wp_ie (by decide) (wp_some (hno (fun ⟨x, y, _, hy, _, y1⟩ => ?_) _ k2))))
          exact (inM (by omega) (by omega)).mpr ⟨y, y1, hy⟩ i4
        · obtain ⟨x, x1, hx⟩ := (inM (by omega) (by omega)).mp i3
          obtain ⟨y, y1, hy⟩ := (inM (by omega) (by omega)).mp i4
          refine wp_it i4 (wp_some (wp_it rfl ?_))
          show wp (zbd (f_X12_prices 310 (-1 : Int32) (zup μ' 310 10 (nI (610 + 109 * k)))) _) P
          generalize zup μ' 310 10 (nI (610 + 109 * k)) = μ2 at l2 k2 ⊢
          refine wp_bdQ (pricesM (A := 0) l2 hB butOk_none) fun μ3 ⟨f3, p3⟩ => ?_
          have g3 : GM (610 + 109 * k) L 0 μ' μ3 := ⟨l2.congr (f3 311 (by omega) (by omega) (by omega)) (by rw [f3 310 (by omega) (by omega) (by omega)]), p3, k2.tr (fun o ho => f3 o (by omega) (by omega) (by omega))⟩
          refine wp_bdQ (spreadsM (h := false) hL.1 g3) fun μ4 ⟨g4, t4⟩ => ?_
          refine wp_bdQ (Q := fun v => v = nI (mnc (Dst L 0 false) (12 * y + x) 4)) ?_ (fun v hv => wp_ls (wp_some ?_))
          · refine wlp0 (fun n k v => f_X12_thrift_L58 310 v2 v3 μ4 n v (nI k)) _ 4 (fun k v => v = nI (mnc (Dst L 0 false) (12 * y + x) k)) (by omega) (1000000 : Int32) rfl ?_ ?_
            · intro n k v hk hv ih
              have ei : (4 : Int32) * ((12 : Int32) * v3 + v2) + nI k = nI (4 * (12 * y + x) + k) := by
                rw [hx, hy]
                show nI 4 * (nI 12 * nI y + nI x) + nI k = _
                rw [pk_mul, nI_add, pk_mul, nI_add]
              obtain ⟨a1, a2⟩ := t4 (4 * (12 * y + x) + k) (by omega)
              have a1 : μ4 (310 + 11) (4 * (12 * y + x) + k) = nI (Dst L 0 false (4 * (12 * y + x) + k)) := a1
              have ml := mnc_le (Dst L 0 false) (12 * y + x) k
              show wp (f_X12_thrift_L58 310 v2 v3 μ4 (n + 1) v (nI k)) _
              rw [f_X12_thrift_L58, ei, nI_clamp (by omega), a1, hv, leI (by omega) (by omega), nI_1]
              exact wp_ie (nI_ge (b := 4) hk (by omega)) (wp_g (zin_nI (by omega) (by omega)) (wp_ls (wp_ls (ih _ rfl))))
            · intro n v hv
              show wp (f_X12_thrift_L58 310 v2 v3 μ4 (n + 1) v (nI 4)) _
              rw [f_X12_thrift_L58]
              exact wp_it (nI_le (a := 4) (Nat.le_refl _) (by omega)) (wp_some hv)
          · rw [hv, ansM (mnc_le _ _ _)]
            exact hyes μ4 g4.2.2 x y hx hy x1 y1
    rcases hasCellC hL.2.1 v2 v3 with ⟨h1, x, y, hx, hy, x1, y1⟩ | ⟨h1, h2⟩
    · refine wp_it (by rw [h1]; decide) (readyC hL.2.1 (by omega) fun μ4 k4 L4 g4 _ _ => ?_)
      rw [hx, hy]
      refine wp_bd2Q (leastToLieC L4 hL.1 (by omega) g4 x1 y1) fun a μ5 ⟨e5, f5⟩ => ?_
      have e5 : a = mnAns (mnc (Dst L 0 false) (12 * y + x) 4) := e5
      have f5 : ∀ o, o ≠ 98 → μ5 o = μ4 o := f5
      have k5 : KP μ μ5 := k4.tr (fun o ho => f5 o (by omega))
      rw [← hx, ← hy]
      refine wp_some (wp_suml (wp_some ⟨k5, ref μ5 _ (k5 311 (by omega)) (fun w => absurd ⟨x, y, hx, hy, x1, y1⟩ w) (fun μ2 k2 x' y' hx' hy' _ _ => ⟨?_, k2⟩)⟩))
      have ex : x' = x := by rw [← nI_clamp (n := x') (by omega), ← hx', hx, nI_clamp (by omega)]
      have ey : y' = y := by rw [← nI_clamp (n := y') (by omega), ← hy', hy, nI_clamp (by omega)]
      rw [e5, ex, ey]
    · refine wp_ie (fun w => w h1) (wp_some (wp_sumr (wp_some ⟨KP.rf μ, ?_⟩)))
      exact ref μ _ rfl (fun _ μ2 k2 => ⟨rfl, k2⟩) (fun μ2 _ x y hx hy x1 y1 => absurd ⟨x, y, hx, hy, x1, y1⟩ h2)
  · refine wp_bdE e1 (wp_bd (wp_cn (wp_some (wp_sumr (wp_some ⟨KP.rf μ, ?_⟩)))))
    unfold f_X12_thrift
    exact wp_bd2 (wp_of (e2 μ rfl) (wp_bd (wp_it rfl (wp_some (wp_ie (by decide) (wp_some ⟨rfl, KP.rf μ⟩))))))
