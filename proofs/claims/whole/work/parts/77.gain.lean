/-! gain, pull: those who weigh, and what a raft does that only floats -/
def sfl (L : Nat → Nat) (S : Nat → Int32) : Nat → Int32 := smove L L (sdrift L S 0) (sdrift L S 1) S
def sput (L : Nat → Nat) (g : Nat) (v : Int32) (S : Nat → Int32) (j : Nat) : Nat → Int32 := fun k => if 20 ≤ k ∧ k < 20 + j ∧ L (88 + 3 * (k - 20)) = g then v else S k
theorem sput_0 {L : Nat → Nat} {g : Nat} {v : Int32} {S : Nat → Int32} : sput L g v S 0 = S := by
  funext k
  exact if_neg (by omega)
theorem sput_y {L : Nat → Nat} {g j : Nat} {v : Int32} {S : Nat → Int32} (h : L (88 + 3 * j) = g) : su (sput L g v S j) (20 + j) v = sput L g v S (j + 1) := by
  funext k
  unfold su sput
  by_cases e : k = 20 + j
  · subst e
    rw [if_pos rfl, if_pos ⟨by omega, by omega, by rw [show 20 + j - 20 = j by omega]; exact h⟩]
  · rw [if_neg e]
    by_cases c : 20 ≤ k ∧ k < 20 + j ∧ L (88 + 3 * (k - 20)) = g
    · rw [if_pos c, if_pos ⟨c.1, by omega, c.2.2⟩]
    · rw [if_neg c, if_neg (fun w => c ⟨w.1, by omega, w.2.2⟩)]
theorem sput_n {L : Nat → Nat} {g j : Nat} {v : Int32} {S : Nat → Int32} (h : ¬ L (88 + 3 * j) = g) : sput L g v S j = sput L g v S (j + 1) := by
  funext k
  unfold sput
  by_cases c : 20 ≤ k ∧ k < 20 + j ∧ L (88 + 3 * (k - 20)) = g
  · rw [if_pos c, if_pos ⟨c.1, by omega, c.2.2⟩]
  · rw [if_neg c, if_neg (fun w => ?_)]
    by_cases e : k = 20 + j
    · subst e
      exact h (by have := w.2.2; rw [show 20 + j - 20 = j by omega] at this; exact this)
    · exact c ⟨w.1, by omega, w.2.2⟩
/-- where those of a column stand -/
def sval (L : Nat → Nat) (c : Nat) : Int32 := if c = 0 then -1 else if c = 1 then 0 else nI (L 2) - 1
def btot (L : Nat → Nat) (g c j : Nat) : Int32 := sm j (fun i => if c ≠ 0 ∧ L (88 + 3 * i) = g then nI (L (87 + 3 * i)) else 0)
theorem floatOnC {r la : Nat} {μ : zM} {L : Nat → Nat} {S : Nat → Int32} (h : RC r μ la la S) (hL : LC la μ L) (hr : la + 14 < r) (hM : SM L S) (hP : SP L L S) : wp (f_X4_floatOn r μ) (fun μ' => RC r μ' la la (sfl L S) ∧ F3 r μ μ') := by
  unfold f_X4_floatOn
  refine wp_bdE (driftC h hL hM) (wp_bdE (driftC h hL hM) (wp_bdQ (moveC h hL hL (by omega) (dir_cases _) (dir_cases _) hP) fun μ' hμ => wp_some ⟨hμ.1, fun o h0 _ _ => hμ.2 o h0⟩))
theorem boardC {r la g c : Nat} {μ : zM} {L : Nat → Nat} {S : Nat → Int32} (h : RC r μ la la S) (hL : LC la μ L) (hr : la + 14 < r) (hg : g < 2) (hc : c < 3) :
    wp (f_X3_board la r (nI g) (nI c) μ) (fun p => p.1 = btot L g c (L 14) ∧ RC r p.2 la la (if c = 0 then S else sput L g (sval L c) S (L 14)) ∧ F3 r μ p.2) := by
  have hB := hL.2.1
  have hb5 := hB.2.1.2.2.2.1
  unfold f_X3_board
  refine wp_bd2Q (Q := fun p => p.1 = btot L g c (L 14) ∧ RC r p.2 la la (if c = 0 then S else sput L g (sval L c) S (L 14)) ∧ F3 r μ p.2) ?_ (fun x μ' hx => wp_some hx)
  refine wlp0 (fun n k (s : Int32 × zM) => f_X3_board_L6 la r (nI g) (nI c) n s.1 (nI k) s.2) _ (L 14) (fun j s => s.1 = btot L g c j ∧ RC r s.2 la la (if c = 0 then S else sput L g (sval L c) S j) ∧ F3 r μ s.2) (by omega) (0, μ) ⟨rfl, by rw [sput_0]; split <;> exact h, fun _ _ _ _ => rfl⟩ ?_ ?_
  · intro n j s hj hI ih
    obtain ⟨i1, i2, i3⟩ := hI
    have l1 := i3.lc hL (by omega)
    have es : s.2 (la + 8) 2 = nI (L 14) := l1.2.2.1.2.1.2.2.2.1
    have hm := hB.2.2.2.2.2.1 j hj
    show wp (f_X3_board_L6 la r (nI g) (nI c) (n + 1) s.1 (nI j) s.2) _
    rw [f_X3_board_L6, es]
    refine wp_it ⟨nI_ge hj (by omega), nI_ge (b := 5) (by omega) (by omega)⟩ ?_
    have skip : (c ≠ 0 → ¬ L (88 + 3 * j) = g) → wp (f_X3_board_L6 la r (nI g) (nI c) n s.1 (nI j + 1) s.2) (fun p => p.1 = btot L g c (L 14) ∧ RC r p.2 la la (if c = 0 then S else sput L g (sval L c) S (L 14)) ∧ F3 r μ p.2) := fun hk => by
      rw [nI_1]
      refine ih s ⟨?_, ?_, i3⟩
      · rw [i1]
        show _ = sm j _ + (if _ then _ else _)
        rw [if_neg (fun w => hk w.1 w.2), Int32.add_zero]
        rfl
      · by_cases e : c = 0
        · rw [if_pos e] at i2 ⊢
          exact i2
        · rw [if_neg e] at i2 ⊢
          rw [← sput_n (hk e)]
          exact i2
    by_cases e : c = 0
    · have e0 : nI c = 0 := by rw [e]; rfl
      refine wp_bd2 (wp_bd (wp_it e0 (wp_some (wp_ie (by decide) (wp_some (wp_ls (skip (fun w => absurd e w))))))))
    · have e0 : ¬ nI c = 0 := fun w => e (by rw [← nI_clamp (n := c) (by omega), w]; rfl)
      refine wp_bd2 (wp_bd (wp_ie e0 (wp_bdE (mo_k l1.1 hB l1.2.2.1 rfl hj) ?_)))
      by_cases hk : L (88 + 3 * j) = g
      · refine wp_ie (fun w => w (by rw [hk])) (wp_some (wp_it rfl (wp_ls (wp_g (zin_nI (by omega) (by omega)) ?_))))
        rw [nI_clamp (by omega), linesC0 l1]
        have ev : (if ¬ nI c = (1 : Int32) then nI (L 2) - 1 else 0) = sval L c := by
          unfold sval
          rw [if_neg e]
          by_cases e1 : c = 1
          · rw [if_pos e1, if_neg (fun w => w (by rw [e1]; rfl))]
          · rw [if_neg e1, if_pos (fun w => e1 (by rw [← nI_clamp (n := c) (by omega), w]; rfl))]
        rw [ev]
        rw [if_neg e] at i2
        have g2 := i2.stand (m := j) (v := sval L c) (by omega)
        rw [sput_y hk] at g2
        have f2 : F3 r μ (zup s.2 (r + 1) j (sval L c)) := i3.tr (fun o _ h1 _ => zup_rne _ _ _ h1)
        have l2 := f2.lc hL (by omega)
        refine wp_ls (wp_bdE (mo_t l2.1 hB l2.2.2.1 rfl hj) (wp_ls (wp_some (wp_ls ?_))))
        rw [nI_1]
        refine ih (_, _) ⟨?_, ?_, f2⟩
        · show s.1 + _ = sm j _ + (if _ then _ else _)
          rw [if_pos ⟨e, hk⟩, i1]
          rfl
        · rw [if_neg e]
          exact g2
      · have hne : ¬ nI (L (88 + 3 * j)) = nI g := fun w => hk (by rw [← nI_clamp (n := L (88 + 3 * j)) (by omega), w, nI_clamp (by omega)])
        exact wp_it hne (wp_some (wp_ie (by decide) (wp_some (wp_ls (skip (fun _ => hk))))))
  · intro n s hI
    obtain ⟨i1, i2, i3⟩ := hI
    have l1 := i3.lc hL (by omega)
    have es : s.2 (la + 8) 2 = nI (L 14) := l1.2.2.1.2.1.2.2.2.1
    show wp (f_X3_board_L6 la r (nI g) (nI c) (n + 1) s.1 (nI (L 14)) s.2) _
    rw [f_X3_board_L6, es]
    exact wp_ie (fun w => w.1 (nI_le (Nat.le_refl _) (by omega))) (wp_some ⟨i1, i2, i3⟩)
def sE (S T : Nat → Int32) : Prop := ∀ k, k ≠ 2 → k ≠ 4 → S k = T k
theorem sE_su {S T : Nat → Int32} (h : sE S T) (k : Nat) (v : Int32) : sE (su S k v) (su T k v) := fun j h2 h4 => by
  unfold su
  by_cases e : j = k
  · rw [if_pos e, if_pos e]
  · rw [if_neg e, if_neg e]
    exact h j h2 h4
theorem sE_moveX {L : Nat → Nat} {S T : Nat → Int32} {d : Int32} (h : sE S T) : sE (smoveX L L d S) (smoveX L L d T) := by
  unfold smoveX
  rw [h 0 (by omega) (by omega), h 1 (by omega) (by omega), h 3 (by omega) (by omega)]
  split
  · exact h
  · split
    · exact sE_su h _ _
    · exact sE_su h _ _
theorem sE_moveY {L : Nat → Nat} {S T : Nat → Int32} {d : Int32} (h : sE S T) : sE (smoveY L L d S) (smoveY L L d T) := by
  unfold smoveY
  rw [h 0 (by omega) (by omega), h 1 (by omega) (by omega), h 3 (by omega) (by omega)]
  split
  · exact h
  · split
    · exact sE_su h _ _
    · exact sE_su h _ _
theorem sE_list {L : Nat → Nat} {S T : Nat → Int32} {ax : Int32} (h : sE S T) : slist L S ax = slist L T ax := by
  unfold slist
  rw [sm_congr (n := 5) (fun m hm => by rw [h (20 + m) (by omega) (by omega)]), sm_congr (n := 16) (fun p hp => by rw [h (30 + p) (by omega) (by omega)])]
theorem sE_drift {L : Nat → Nat} {S T : Nat → Int32} {ax : Int32} (h : sE S T) : sdrift L S ax = sdrift L T ax := by
  unfold sdrift
  rw [sE_list h, h 8 (by omega) (by omega), h 9 (by omega) (by omega)]
theorem sE_hour {L : Nat → Nat} {S T : Nat → Int32} (h : sE S T) (h6 : T 6 = 0) (h7 : T 7 = 0) : sE (mhour L false S) (sfl L T) := by
  have h1 : sE (sh2 S) T := fun k h2 h4 => by
    unfold sh2
    rw [su_ne h2]
    exact h k h2 h4
  have c : sh2 S 6 = 0 ∧ sh2 S 7 = 0 := ⟨(h1 6 (by omega) (by omega)).trans h6, (h1 7 (by omega) (by omega)).trans h7⟩
  have e1 : sh1 L (sh2 S) = smove L L (sdrift L (sh2 S) 0) (sdrift L (sh2 S) 1) (sh2 S) := if_pos c
  unfold mhour
  rw [if_neg (by decide), e1, sE_drift h1, sE_drift h1]
  unfold sh3 sfl smove
  intro k h2 h4
  rw [su_ne h4]
  exact sE_moveY (sE_moveX h1) k h2 h4
/-- a raft that may float on -/
def TOk (L : Nat → Nat) (T : Nat → Int32) : Prop := T 5 = 0 ∧ T 6 = 0 ∧ T 7 = 0 ∧ SM L T ∧ SWz L T ∧ wayOk (T 8) ∧ SP L L T
theorem TOk.fl {L : Nat → Nat} {T : Nat → Int32} (hB : LB L) (h : TOk L T) : TOk L (sfl L T) := by
  obtain ⟨h5, h6, h7, hM, hz, hw, hP⟩ := h
  unfold sfl
  refine ⟨?_, ?_, ?_, fun m hm => ?_, fun p h1 h2 => ?_, ?_, smove_SP hB hB (dir_cases _) (dir_cases _) hP⟩
  · rw [smove_at (by omega) (by omega) (by omega)]
    exact h5
  · rw [smove_at (by omega) (by omega) (by omega)]
    exact h6
  · rw [smove_at (by omega) (by omega) (by omega)]
    exact h7
  · rw [smove_at (by omega) (by omega) (by omega)]
    exact hM m hm
  · rw [smove_at (by omega) (by omega) (by omega)]
    exact hz p h1 h2
  · rw [smove_at (by omega) (by omega) (by omega)]
    exact hw
theorem TOk.E {L : Nat → Nat} {S T : Nat → Int32} (e : sE S T) (h : TOk L T) : TOk L S := by
  obtain ⟨h5, h6, h7, hM, hz, hw, hP⟩ := h
  refine ⟨(e 5 (by omega) (by omega)).trans h5, (e 6 (by omega) (by omega)).trans h6, (e 7 (by omega) (by omega)).trans h7, fun m hm => ?_, fun p h1 h2 => ?_, ?_, ?_⟩
  · rw [e (20 + m) (by omega) (by omega)]
    exact hM m hm
  · rw [e (30 + p) (by omega) (by omega)]
    exact hz p h1 h2
  · rw [e 8 (by omega) (by omega)]
    exact hw
  · obtain ⟨x, y, hx, hy, hc⟩ := hP
    exact ⟨x, y, (e 0 (by omega) (by omega)).trans hx, (e 1 (by omega) (by omega)).trans hy, hc⟩
def sfls (L : Nat → Nat) (T : Nat → Int32) : Nat → Nat → Int32
  | 0 => T
  | n + 1 => sfl L (sfls L T n)
theorem sfls_ok {L : Nat → Nat} {T : Nat → Int32} (hB : LB L) (h : TOk L T) : ∀ n, TOk L (sfls L T n)
  | 0 => h
  | n + 1 => (sfls_ok hB h n).fl hB
theorem putsM {q g c : Nat} {μ : zM} {L : Nat → Nat} {S : Nat → Int32} (h : LM q μ L) (hB : LB L) (hS : MC μ S) (hg : g < 2) (hc : c < 3) :
    wp (f_X12_puts 310 (nI g) (nI c) μ) (fun μ' => MC μ' (sput L g (sval L c) S (L 14)) ∧ MF μ μ') := by
  have hb5 := hB.2.1.2.2.2.1
  unfold f_X12_puts
  refine wp_bdQ (Q := fun μ' => MC μ' (sput L g (sval L c) S (L 14)) ∧ MF μ μ') ?_ (fun x hx => wp_some hx)
  refine wlp0 (fun n k μ1 => f_X12_puts_L2 310 (nI g) (nI c) n (nI k) μ1) _ (L 14) (fun j μ1 => MC μ1 (sput L g (sval L c) S j) ∧ MF μ μ1) (by omega) μ ⟨by rw [sput_0]; exact hS, MF.rf μ⟩ ?_ ?_
  · intro n j μ1 hj ⟨i1, i2⟩ ih
    have l1 := h.mf i2
    have hm := hB.2.2.2.2.2.1 j hj
    show wp (f_X12_puts_L2 310 (nI g) (nI c) (n + 1) (nI j) μ1) _
    rw [f_X12_puts_L2]
    refine wp_bdE (mournersM l1) (wp_ie (nI_ge hj (by omega)) (wp_bdE (ofMournerM (j := 2) l1 rfl rfl (by omega) (by omega)) ?_))
    rw [show 86 + 3 * j + 2 = 88 + 3 * j by omega]
    by_cases hk : L (88 + 3 * j) = g
    · refine wp_bd (wp_ie (fun w => w (by rw [hk])) (wp_bdQ (Q := fun x => x = sval L c) ?_ fun x hx => ?_))
      · unfold sval
        by_cases e : c = 0
        · subst e
          exact wp_ie (fun w => w rfl) (wp_some rfl)
        · have e0 : ¬ nI c = 0 := fun w => e (by rw [← nI_clamp (n := c) (by omega), w]; rfl)
          rw [if_neg e]
          by_cases e1 : c = 1
          · subst e1
            exact wp_it e0 (wp_ie (fun w => w rfl) (wp_some rfl))
          · rw [if_neg e1]
            have e2 : ¬ nI c = 1 := fun w => e1 (by rw [← nI_clamp (n := c) (by omega), w]; rfl)
            exact wp_it e0 (wp_it e2 (wp_bdE (ofM 2 l1 rfl (by omega)) (wp_some rfl)))
      · subst hx
        refine wp_g (zin_nI (by omega) (by omega)) (wp_ls (wp_some (wp_ls ?_)))
        rw [nI_clamp (by omega), nI_1]
        have g2 := i1.stand (m := j) (v := sval L c) (by omega)
        rw [sput_y hk] at g2
        exact ih _ ⟨g2, i2.tr MF.stand⟩
    · have hne : ¬ nI (L (88 + 3 * j)) = nI g := fun w => hk (by rw [← nI_clamp (n := L (88 + 3 * j)) (by omega), w, nI_clamp (by omega)])
      refine wp_bd (wp_it hne (wp_some (wp_ls ?_)))
      rw [nI_1]
      rw [sput_n hk] at i1
      exact ih _ ⟨i1, i2⟩
  · intro n μ1 ⟨i1, i2⟩
    have l1 := h.mf i2
    show wp (f_X12_puts_L2 310 (nI g) (nI c) (n + 1) (nI (L 14)) μ1) _
    rw [f_X12_puts_L2]
    exact wp_bdE (mournersM l1) (wp_it (nI_le (Nat.le_refl _) (by omega)) (wp_some ⟨i1, i2⟩))
theorem sput_id {L : Nat → Nat} {g n : Nat} {v : Int32} {S : Nat → Int32} (h : ∀ j, j < n → L (88 + 3 * j) = g → S (20 + j) = v) : sput L g v S n = S := by
  funext k
  unfold sput
  by_cases c : 20 ≤ k ∧ k < 20 + n ∧ L (88 + 3 * (k - 20)) = g
  · rw [if_pos c]
    have := h (k - 20) (by omega) c.2.2
    rw [show 20 + (k - 20) = k by omega] at this
    exact this.symm
  · rw [if_neg c]
theorem sput_lo {L : Nat → Nat} {g n k : Nat} {v : Int32} {S : Nat → Int32} (h : k < 20 ∨ 20 + n ≤ k) : sput L g v S n k = S k := if_neg (by omega)
def gT (L : Nat → Nat) (i : Nat) : Nat → Int32 := sput L 1 (sval L (i % 3)) (sput L 0 (sval L (i / 3)) (sbegin L L) (L 14)) (L 14)
theorem sbegin_st {L : Nat → Nat} {j : Nat} (h : j < 10) : sbegin L L (20 + j) = -1 := by
  unfold sbegin
  rw [if_neg (by omega), if_neg (by omega), if_neg (by omega), if_neg (by omega), if_pos (by omega)]
theorem sval_ok {L : Nat → Nat} (hB : LB L) (c : Nat) : sval L c = -1 ∨ ∃ p : Nat, p < L 2 * L 3 ∧ sval L c = nI p := by
  have hb2 := hB.1.2.2.1
  have hb3 := hB.1.2.2.2.1
  have h1 : L 2 * 1 ≤ L 2 * L 3 := Nat.mul_le_mul (Nat.le_refl _) (by omega)
  unfold sval
  by_cases e : c = 0
  · exact Or.inl (if_pos e)
  · rw [if_neg e]
    by_cases e1 : c = 1
    · exact Or.inr ⟨0, by omega, if_pos e1⟩
    · rw [if_neg e1]
      refine Or.inr ⟨L 2 - 1, by omega, ?_⟩
      have : nI (L 2) = nI (L 2 - 1) + nI 1 := by rw [nI_add]; congr 1; omega
      rw [this]
      show nI (L 2 - 1) + 1 - 1 = _
      generalize nI (L 2 - 1) = x
      grind
theorem gT_ok {L : Nat → Nat} (hO : LOk L) (i : Nat) : TOk L (gT L i) := by
  have hB := hO.1
  have hb5 := hB.2.1.2.2.2.1
  have s := sbegin_ok hO
  have lo : ∀ k, k < 20 ∨ 25 ≤ k → gT L i k = sbegin L L k := fun k hk => by
    unfold gT
    rw [sput_lo (by omega), sput_lo (by omega)]
  obtain ⟨hP, hM, hz, hw, -⟩ := s
  refine ⟨?_, ?_, ?_, fun m hm => ?_, fun p h1 h2 => ?_, ?_, ?_⟩
  · rw [lo 5 (by omega)]
    rfl
  · rw [lo 6 (by omega)]
    rfl
  · rw [lo 7 (by omega)]
    rfl
  · have go : ∀ (v : Int32) (w : Int32), (v = -1 ∨ m < L 14 ∧ ∃ p : Nat, p < L 2 * L 3 ∧ v = nI p) → v = w → (w = -1 ∨ m < L 14 ∧ ∃ p : Nat, p < L 2 * L 3 ∧ w = nI p) := fun v w h e => e ▸ h
    have sv : ∀ c, m < L 14 → (sval L c = -1 ∨ m < L 14 ∧ ∃ p : Nat, p < L 2 * L 3 ∧ sval L c = nI p) := fun c h => (sval_ok hB c).imp id (fun w => ⟨h, w⟩)
    unfold gT
    by_cases c1 : 20 ≤ 20 + m ∧ 20 + m < 20 + L 14 ∧ L (88 + 3 * (20 + m - 20)) = 1
    · exact go _ _ (sv (i % 3) (by omega)) (if_pos c1).symm
    · have e1 : sput L 1 (sval L (i % 3)) (sput L 0 (sval L (i / 3)) (sbegin L L) (L 14)) (L 14) (20 + m) = sput L 0 (sval L (i / 3)) (sbegin L L) (L 14) (20 + m) := if_neg c1
      rw [e1]
      by_cases c2 : 20 ≤ 20 + m ∧ 20 + m < 20 + L 14 ∧ L (88 + 3 * (20 + m - 20)) = 0
      · exact go _ _ (sv (i / 3) (by omega)) (if_pos c2).symm
      · have e2 : sput L 0 (sval L (i / 3)) (sbegin L L) (L 14) (20 + m) = sbegin L L (20 + m) := if_neg c2
        rw [e2]
        exact Or.inl (sbegin_st (by omega))
  · rw [lo (30 + p) (by omega)]
    exact hz p h1 h2
  · rw [lo 8 (by omega)]
    exact hw
  · obtain ⟨x, y, hx, hy, hc⟩ := hP
    exact ⟨x, y, (lo 0 (by omega)).trans hx, (lo 1 (by omega)).trans hy, hc⟩
def gX (L : Nat → Nat) (h i : Nat) : Int32 := sfls L (gT L i) h 0
def gv (L : Nat → Nat) (h i g : Nat) : Int32 := (10 : Int32) * (if g = 0 then nI (L 4) - gX L h i else gX L h i - nI (L 4)) - nI h * btot L g (if g = 0 then i / 3 else i % 3) (L 14)
theorem boardC2 {r la i : Nat} {μ : zM} {L : Nat → Nat} (h : RC r μ la la (sbegin L L)) (hL : LC la μ L) (hr : la + 14 < r) (hi : i < 9) (P : Int32 → Int32 → zM → Prop)
    (hP : ∀ μ2, RC r μ2 la la (gT L i) → F3 r μ μ2 → P (btot L 0 (i / 3) (L 14)) (btot L 1 (i % 3) (L 14)) μ2) :
    wp (f_X3_board la r (nI 0) (nI (i / 3)) μ) (fun p => wp (f_X3_board la r (nI 1) (nI (i % 3)) p.2) (fun q => P p.1 q.1 q.2)) := by
  have hB := hL.2.1
  have hb5 := hB.2.1.2.2.2.1
  refine wp_mono (boardC h hL hr (by omega) (by omega)) fun p ⟨p1, p2, p3⟩ => ?_
  have e0 : (if i / 3 = 0 then sbegin L L else sput L 0 (sval L (i / 3)) (sbegin L L) (L 14)) = sput L 0 (sval L (i / 3)) (sbegin L L) (L 14) := by
    by_cases c : i / 3 = 0
    · rw [if_pos c, c]
      exact (sput_id (fun j hj _ => sbegin_st (by omega))).symm
    · rw [if_neg c]
  rw [e0] at p2
  refine wp_mono (boardC p2 (p3.lc hL (by omega)) hr (by omega) (by omega)) fun q ⟨q1, q2, q3⟩ => ?_
  have e1 : (if i % 3 = 0 then sput L 0 (sval L (i / 3)) (sbegin L L) (L 14) else gT L i) = gT L i := by
    by_cases c : i % 3 = 0
    · rw [if_pos c]
      unfold gT
      rw [c]
      refine (sput_id (fun j hj hk => ?_)).symm
      have : sput L 0 (sval L (i / 3)) (sbegin L L) (L 14) (20 + j) = sbegin L L (20 + j) := if_neg (fun w => by
        have := w.2.2
        rw [show 20 + j - 20 = j by omega, hk] at this
        exact absurd this (by decide))
      rw [this]
      exact sbegin_st (by omega)
    · rw [if_neg c]
  have q2' : RC r q.2 la la (gT L i) := by rw [← e1]; exact q2
  rw [p1, q1]
  exact hP _ q2' (p3.tr q3)
theorem hearC {la h : Nat} {μ : zM} {L : Nat → Nat} (hL : LC la μ L) (hO : LOk L) (hr : la + 14 < 87) (hh : h ≤ 12) :
    wp (f_X3_hear 104 la (nI h) 87 μ) (fun μ' => (∀ i, i < 9 → μ' 105 (2 * i) = gv L h i 0 ∧ μ' 105 (2 * i + 1) = gv L h i 1) ∧ ∀ o, o ≠ 87 → o ≠ 88 → o ≠ 89 → o ≠ 105 → μ' o = μ o) := by
  have hB := hO.1
  unfold f_X3_hear
  refine wp_bdQ (Q := fun μ' => (∀ i, i < 9 → μ' 105 (2 * i) = gv L h i 0 ∧ μ' 105 (2 * i + 1) = gv L h i 1) ∧ ∀ o, o ≠ 87 → o ≠ 88 → o ≠ 89 → o ≠ 105 → μ' o = μ o) ?_ (fun x hx => wp_some hx)
  refine wlp0 (fun n k μ1 => f_X3_hear_L3 104 la (nI h) 87 n (nI k) μ1) _ 9 (fun k μ1 => (∀ i, i < k → μ1 105 (2 * i) = gv L h i 0 ∧ μ1 105 (2 * i + 1) = gv L h i 1) ∧ ∀ o, o ≠ 87 → o ≠ 88 → o ≠ 89 → o ≠ 105 → μ1 o = μ o) (by omega) μ ⟨fun i hi => by omega, fun _ _ _ _ _ => rfl⟩ ?_ ?_
  · intro n k μ1 hk ⟨i1, i2⟩ ih
    show wp (f_X3_hear_L3 104 la (nI h) 87 (n + 1) (nI k) μ1) _
    rw [f_X3_hear_L3]
    have l1 : LC la μ1 L := hL.congr (fun o h1 h2 => i2 o (by omega) (by omega) (by omega) (by omega))
    refine wp_ie (nI_ge (b := 9) hk (by omega)) (wp_bdQ (launchC l1 l1 (by omega)) fun μ7 ⟨g7, f7⟩ => wp_ls ?_)
    have f7' : F3 87 μ1 μ7 := f7
    have l7 := f7'.lc l1 (by omega)
    have ed : nI k / 3 = nI (k / 3) := by
      show nI k / nI 3 = _
      rw [pk_div (by omega) (by omega) (by omega)]
    have er : nI k % 3 = nI (k % 3) := by
      show nI k % nI 3 = _
      rw [nI_rem (by omega) (by omega) (by omega)]
    rw [ed, er]
    obtain ⟨p, e1, q, e2, hp, hq, g12, f12⟩ := boardC2 (i := k) g7 l7 (by omega) hk (fun a b μ2 => a = btot L 0 (k / 3) (L 14) ∧ b = btot L 1 (k % 3) (L 14) ∧ RC 87 μ2 la la (gT L k) ∧ F3 87 μ7 μ2) (fun μ2 h1 h2 => ⟨rfl, rfl, h1, h2⟩)
    refine wp_bd2 (wp_of e1 (wp_bd2 (wp_of e2 ?_)))
    rw [hp, hq]
    have ex : μ7 87 2 = nI (L 4) := (g7.f 0 (by omega)).trans rfl
    rw [ex]
    have l12 := f12.lc l7 (by omega)
    refine wp_bdQ (Q := fun μ' => RC 87 μ' la la (sfls L (gT L k) h) ∧ F3 87 q.2 μ') ?_ (fun μ' hμ' => ?_)
    · refine wlp0 (fun n j μ' => f_X3_hear_L49 104 la (nI h) 87 (nI k) (nI (L 4)) (btot L 0 (k / 3) (L 14)) (btot L 1 (k % 3) (L 14)) n (nI j) μ') _ h (fun j μ' => RC 87 μ' la la (sfls L (gT L k) j) ∧ F3 87 q.2 μ') (by omega) q.2 ⟨g12, fun _ _ _ _ => rfl⟩ ?_ ?_
      · intro m j μ2 hj ⟨j1, j2⟩ ihj
        show wp (f_X3_hear_L49 104 la (nI h) 87 (nI k) (nI (L 4)) (btot L 0 (k / 3) (L 14)) (btot L 1 (k % 3) (L 14)) (m + 1) (nI j) μ2) _
        rw [f_X3_hear_L49]
        have t := sfls_ok hB (gT_ok hO k) j
        refine wp_ie (nI_ge hj (by omega)) (wp_bdQ (floatOnC j1 (j2.lc l12 (by omega)) (by omega) t.2.2.2.1 t.2.2.2.2.2.2) fun μ3 ⟨k1, k2⟩ => wp_ls ?_)
        rw [nI_1]
        exact ihj _ ⟨k1, j2.tr k2⟩
      · intro m μ2 hj
        show wp (f_X3_hear_L49 104 la (nI h) 87 (nI k) (nI (L 4)) (btot L 0 (k / 3) (L 14)) (btot L 1 (k % 3) (L 14)) (m + 1) (nI h) μ2) _
        rw [f_X3_hear_L49]
        exact wp_it (nI_le (Nat.le_refl _) (by omega)) (wp_some hj)
    · obtain ⟨g, f⟩ := hμ'
      have eX : μ' 87 2 = gX L h k := g.f 0 (by omega)
      have em : nI k * (2 : Int32) = nI (2 * k) := by
        show nI k * nI 2 = _
        rw [pk_mul, Nat.mul_comm]
      have em1 : nI k * (2 : Int32) + 1 = nI (2 * k + 1) := by rw [em]; exact nI_1 _
      have keep : ∀ o, o ≠ 87 → o ≠ 88 → o ≠ 89 → μ' o = μ1 o := fun o h1 h2 h3 => by rw [f o h1 h2 h3, f12 o h1 h2 h3, f7' o h1 h2 h3]
      rw [em1, em]
      refine wp_g (zin_nI (by omega) (by omega)) (wp_ls (wp_g (zin_nI (by omega) (by omega)) (wp_ls (wp_ls ?_))))
      rw [nI_clamp (by omega), nI_clamp (by omega), zup_rne _ _ _ (show (87 : Nat) ≠ 104 + 1 by omega), eX, nI_1]
      refine ih _ ⟨fun i hi => ?_, fun o h1 h2 h3 h4 => ?_⟩
      · by_cases hik : i = k
        · subst hik
          refine ⟨?_, ?_⟩
          · rw [zup_ne (by omega)]
            exact zup_self _ _ _ _
          · exact zup_self _ _ _ _
        · have := i1 i (by omega)
          rw [zup_ne (by omega), zup_ne (by omega), zup_ne (by omega), zup_ne (by omega), keep 105 (by omega) (by omega) (by omega)]
          exact this
      · rw [zup_rne _ _ _ h4, zup_rne _ _ _ h4, keep o h1 h2 h3]
        exact i2 o h1 h2 h3 h4
  · intro n μ1 hI
    show wp (f_X3_hear_L3 104 la (nI h) 87 (n + 1) (nI 9) μ1) _
    rw [f_X3_hear_L3]
    exact wp_it (nI_le (a := 9) (Nat.le_refl _) (by omega)) (wp_some hI)
theorem sfls_st {L : Nat → Nat} {T : Nat → Int32} {k : Nat} (h0 : k ≠ 0) (h1 : k ≠ 1) (h3 : k ≠ 3) : ∀ n, sfls L T n k = T k
  | 0 => rfl
  | n + 1 => by
    show sfl L (sfls L T n) k = T k
    unfold sfl
    rw [smove_at h0 h1 h3]
    exact sfls_st h0 h1 h3 n
theorem sval_m {L : Nat → Nat} (hB : LB L) {c : Nat} : sval L c = -1 ↔ c = 0 := by
  have hb2 := hB.1.2.2.1
  unfold sval
  by_cases e : c = 0
  · rw [if_pos e]
    exact ⟨fun _ => e, fun _ => rfl⟩
  · rw [if_neg e]
    refine ⟨fun w => ?_, fun w => absurd w e⟩
    by_cases e1 : c = 1
    · rw [if_pos e1] at w
      exact absurd w (by decide)
    · rw [if_neg e1] at w
      have h1 : nI (L 2) = 0 := by
        have : nI (L 2) = (nI (L 2) - 1) + 1 := by
          generalize nI (L 2) = x
          grind
        rw [this, w]
        decide
      have h2 : L 2 = 0 := by rw [← nI_clamp (n := L 2) (by omega), h1]; rfl
      omega
theorem gT_st {L : Nat → Nat} {i j g : Nat} (hj : j < L 14) (hk : L (88 + 3 * j) = g) (hg : g < 2) : gT L i (20 + j) = sval L (if g = 0 then i / 3 else i % 3) := by
  have e : 20 + j - 20 = j := by omega
  unfold gT
  by_cases c : g = 0
  · rw [if_pos c]
    have e1 : sput L 1 (sval L (i % 3)) (sput L 0 (sval L (i / 3)) (sbegin L L) (L 14)) (L 14) (20 + j) = sput L 0 (sval L (i / 3)) (sbegin L L) (L 14) (20 + j) := if_neg (fun w => by
      have := w.2.2
      rw [e, hk, c] at this
      exact absurd this (by decide))
    rw [e1]
    exact if_pos ⟨by omega, by omega, by rw [e, hk, c]⟩
  · rw [if_neg c]
    exact if_pos ⟨by omega, by omega, by rw [e, hk]; omega⟩
theorem MF2.mf {μ μ1 μ2 : zM} (f : MF2 μ μ1) (g : MF μ1 μ2) : MF2 μ μ2 := ⟨fun o h1 h2 h3 => (g.1 o h1 h2 h3).trans (f.1 o h1 h2 h3), fun k hk => (g.2 k (by omega)).trans (f.2 k hk)⟩
theorem gainOfM {q t i g : Nat} {μ : zM} {L : Nat → Nat} (h : LM q μ L) (hO : LOk L) (ht : t ≤ 12) (hi : i < 9) (hg : g < 2) :
    wp (f_X12_gainOf 310 (nI t) (nI i) (nI g) μ) (fun p => p.1 = gv L t i g ∧ MF2 μ p.2) := by
  have hB := hO.1
  have hb5 := hB.2.1.2.2.2.1
  have ed : nI i / 3 = nI (i / 3) := by
    show nI i / nI 3 = _
    rw [pk_div (by omega) (by omega) (by omega)]
  have er : nI i % 3 = nI (i % 3) := by
    show nI i % nI 3 = _
    rw [nI_rem (by omega) (by omega) (by omega)]
  unfold f_X12_gainOf
  rw [ed, er]
  refine wp_bdQ (beginsM h) fun μ1 ⟨g1, f1, _⟩ => ?_
  refine wp_bdQ (putsM (g := 0) (h.mf2 f1) hB g1 (by omega) (by omega)) fun μ2 ⟨g2, f2⟩ => ?_
  have f2' := f1.mf f2
  refine wp_bdQ (putsM (g := 1) (h.mf2 f2') hB g2 (by omega) (by omega)) fun μ3 ⟨g3, f3⟩ => ?_
  have f3' := f2'.mf f3
  have g3' : MC μ3 (gT L i) := g3
  refine wp_bdQ (Q := fun μ' => (∃ S, sE S (sfls L (gT L i) t) ∧ MC μ' S) ∧ MF2 μ μ') ?_ (fun μ' hμ' => ?_)
  · refine wlp0 (fun n j μ' => f_X12_gainOf_L23 310 (nI t) (nI g) n (nI j) μ') _ t (fun j μ' => (∃ S, sE S (sfls L (gT L i) j) ∧ MC μ' S) ∧ MF2 μ μ') (by omega) μ3 ⟨⟨gT L i, (fun _ _ _ => rfl), g3'⟩, f3'⟩ ?_ ?_
    · intro n j μ' hj ⟨⟨S, s1, s2⟩, s3⟩ ih
      show wp (f_X12_gainOf_L23 310 (nI t) (nI g) (n + 1) (nI j) μ') _
      rw [f_X12_gainOf_L23]
      have tk := sfls_ok hB (gT_ok hO i) j
      obtain ⟨t5, t6, t7, tM, tz, tw, tP⟩ := tk.E s1
      refine wp_ie (nI_ge hj (by omega)) (wp_bdQ (hourM (lk := false) (h.mf2 s3) hO s2 t5 tM tz tw tP) fun μ'' ⟨k1, k2⟩ => wp_ls ?_)
      rw [nI_1]
      exact ih _ ⟨⟨_, sE_hour s1 tk.2.1 tk.2.2.1, k1⟩, s3.mf k2⟩
    · intro n μ' hj
      show wp (f_X12_gainOf_L23 310 (nI t) (nI g) (n + 1) (nI t) μ') _
      rw [f_X12_gainOf_L23]
      exact wp_it (nI_le (Nat.le_refl _) (by omega)) (wp_some hj)
  · obtain ⟨⟨S, s1, s2⟩, s3⟩ := hμ'
    have l3 := h.mf2 s3
    have st : ∀ j, j < L 14 → L (88 + 3 * j) = g → S (20 + j) = sval L (if g = 0 then i / 3 else i % 3) := fun j hj hk => by
      rw [s1 (20 + j) (by omega) (by omega), sfls_st (by omega) (by omega) (by omega)]
      exact gT_st hj hk hg
    generalize hc : (if g = 0 then i / 3 else i % 3) = c at st
    refine wp_bdQ (Q := fun x => x = btot L g c (L 14)) ?_ (fun x hx => wp_bdE (ofM 4 l3 rfl (by omega)) (wp_ls (wp_ls (wp_some ⟨?_, s3⟩))))
    · refine wlp0 (fun n j x => f_X12_gainOf_L46 310 (nI t) (nI g) μ' n x (nI j)) _ (L 14) (fun j x => x = btot L g c j) (by omega) 0 rfl ?_ ?_
      · intro n j x hj hx ih
        show wp (f_X12_gainOf_L46 310 (nI t) (nI g) μ' (n + 1) x (nI j)) _
        rw [f_X12_gainOf_L46]
        have hm := hB.2.2.2.2.2.1 j hj
        refine wp_bdE (mournersM l3) (wp_ie (nI_ge hj (by omega)) (wp_bdE (ofMournerM (j := 2) l3 rfl rfl (by omega) (by omega)) ?_))
        rw [show 86 + 3 * j + 2 = 88 + 3 * j by omega]
        have stp : ∀ v, v = (if c ≠ 0 ∧ L (88 + 3 * j) = g then nI (L (87 + 3 * j)) else 0) → wp (f_X12_gainOf_L46 310 (nI t) (nI g) μ' n (x + v) (nI j + 1)) (fun x => x = btot L g c (L 14)) := fun v hv => by
          rw [nI_1]
          refine ih _ ?_
          rw [hx, hv]
          rfl
        by_cases hk : L (88 + 3 * j) = g
        · have es : μ' (310 + 4) j = S (20 + j) := s2.2.1 j (by omega)
          by_cases e : c = 0
          · refine wp_bd (wp_bd (wp_ie (fun w => w (by rw [hk])) (wp_g (zin_nI (by omega) (by omega)) ?_)))
            rw [nI_clamp (by omega), es, st j hj hk]
            exact wp_it ((sval_m hB).mpr e) (wp_some (wp_ie (by decide) (wp_some (wp_ls (wp_ls (stp 0 (if_neg (fun w => w.1 e)).symm))))))
          · refine wp_bd (wp_bd (wp_ie (fun w => w (by rw [hk])) (wp_g (zin_nI (by omega) (by omega)) ?_)))
            rw [nI_clamp (by omega), es, st j hj hk]
            refine wp_ie (fun w => e ((sval_m hB).mp w)) (wp_some (wp_it rfl (wp_bdE (ofMournerM (j := 1) l3 rfl rfl (by omega) (by omega)) (wp_some (wp_ls (wp_ls (stp _ ?_)))))))
            rw [if_pos ⟨e, hk⟩, show 86 + 3 * j + 1 = 87 + 3 * j by omega]
        · have hne : ¬ nI (L (88 + 3 * j)) = nI g := fun w => hk (by rw [← nI_clamp (n := L (88 + 3 * j)) (by omega), w, nI_clamp (by omega)])
          exact wp_bd (wp_bd (wp_it hne (wp_some (wp_ie (by decide) (wp_some (wp_ls (wp_ls (stp 0 (if_neg (fun w => hk w.2)).symm))))))))
      · intro n x hx
        show wp (f_X12_gainOf_L46 310 (nI t) (nI g) μ' (n + 1) x (nI (L 14))) _
        rw [f_X12_gainOf_L46]
        exact wp_bdE (mournersM l3) (wp_it (nI_le (Nat.le_refl _) (by omega)) (wp_some hx))
    · have e0 : μ' 310 12 = gX L t i := (s2.f 0 (by omega)).trans (s1 0 (by omega) (by omega))
      show (10 : Int32) * (if ¬ nI g = 1 then -(μ' 310 12 - nI (L 4)) else μ' 310 12 - nI (L 4)) - x * nI t = gv L t i g
      unfold gv
      rw [e0, hx, hc]
      generalize btot L g c (L 14) = b
      generalize gX L t i = X
      have hg' : g = 0 ∨ g = 1 := by omega
      rcases hg' with rfl | rfl
      · rw [if_pos (show ¬ nI 0 = 1 by decide), if_pos rfl]
        generalize nI (L 4) = y
        generalize nI t = z
        grind
      · rw [if_neg (show ¬ ¬ nI 1 = 1 by decide), if_neg (by decide)]
        generalize nI (L 4) = y
        generalize nI t = z
        grind
theorem inY {v x y : Int32} : (¬ f_X12_isIn v x y = 0) ↔ ¬ v < x ∧ ¬ y < v := by
  rw [isInM]
  unfold b2i
  by_cases h1 : v < x
  · rw [decide_eq_false (Int32.not_le.mpr h1)]
    exact ⟨fun w => absurd rfl w, fun w => absurd h1 w.1⟩
  · by_cases h2 : y < v
    · rw [decide_eq_false (Int32.not_le.mpr h2), Bool.and_false]
      exact ⟨fun w => absurd rfl w, fun w => absurd h2 w.2⟩
    · rw [decide_eq_true (Int32.not_lt.mp h1), decide_eq_true (Int32.not_lt.mp h2)]
      exact ⟨fun _ => ⟨h1, h2⟩, fun _ => by decide⟩
theorem nI_rng {v : Int32} {b : Nat} (hb : b < 2 ^ 31) (h : ¬ v < 0) (h2 : ¬ nI b < v) : ∃ j, j ≤ b ∧ v = nI j := by
  obtain ⟨j, j1, rfl⟩ := nI_of h
  refine ⟨j, ?_, rfl⟩
  rw [I_lt, nI_int hb, nI_int j1] at h2
  omega
theorem gainOfC {t i g : Nat} {μ : zM} {L : Nat → Nat} (hi : i < 9) (hg : g < 2) (h : ∀ i, i < 9 → μ 105 (2 * i) = gv L t i 0 ∧ μ 105 (2 * i + 1) = gv L t i 1) : f_X3_gainOf 104 (nI i) (nI g) μ = some (gv L t i g) := by
  refine wp_eq ?_
  have e : nI i * 2 + nI g = nI (2 * i + g) := by
    show nI i * nI 2 + nI g = _
    rw [pk_mul, nI_add, Nat.mul_comm]
  unfold f_X3_gainOf
  rw [e]
  refine wp_g (zin_nI (by omega) (by omega)) (wp_some ?_)
  rw [nI_clamp (by omega)]
  have hg' : g = 0 ∨ g = 1 := by omega
  rcases hg' with rfl | rfl
  · exact (h i hi).1
  · exact (h i hi).2
theorem hearKP {μ μ' : zM} (f : ∀ o, o ≠ 87 → o ≠ 88 → o ≠ 89 → o ≠ 105 → μ' o = μ o) : KP μ μ' := fun o ho => f o (by omega) (by omega) (by omega) (by omega)
theorem gain_same (v1 v2 v3 v4 : Int32) : Same (f_X11_gain 0 v1 v2 v3 v4) (f_X12_gain 310 v1 v2 v3 v4) := by
  refine Same.of fun μ hI => ?_
  unfold f_X11_gain
  rcases lake_cases hI v1 with ⟨k, L, hk, hL, e1, e2⟩ | ⟨e1, e2⟩
  · have z1 : zgn (6 + 15 * k) 1 = true := by unfold zgn; rw [zlk_kd k hk]; rfl
    refine wp_bdE e1 (wp_bd (wp_cs (wp_g z1 ?_)))
    by_cases c : (¬ (v2 < (1 : Int32))) ∧ ((¬ ((12 : Int32) < v2)) ∧ ((¬ (v3 < 0)) ∧ ((¬ ((8 : Int32) < v3)) ∧ ((¬ (v4 < 0)) ∧ (v4 ≤ (1 : Int32))))))
    · refine wp_it c ?_
      have cr : (¬ (1 : Int32) = 0) ∧ ((¬ ((f_X12_isIn v2 (1 : Int32) (12 : Int32)) = 0)) ∧ ((¬ ((f_X12_isIn v3 (0 : Int32) (8 : Int32)) = 0)) ∧ (¬ ((f_X12_isIn v4 (0 : Int32) (1 : Int32)) = 0)))) := ⟨by decide, inY.mpr ⟨c.1, c.2.1⟩, inY.mpr ⟨c.2.2.1, c.2.2.2.1⟩, inY.mpr ⟨c.2.2.2.2.1, Int32.not_lt.mpr c.2.2.2.2.2⟩⟩
      have n2 : ¬ v2 < 0 := fun w => c.1 (by
        rw [I_lt] at w ⊢
        have h0 : (0 : Int32).toInt = 0 := by decide
        have h1 : (1 : Int32).toInt = 1 := by decide
        omega)
      obtain ⟨t, t1, et⟩ := nI_rng (b := 12) (by omega) n2 c.2.1
      obtain ⟨i, i1, ei⟩ := nI_rng (b := 8) (by omega) c.2.2.1 c.2.2.2.1
      obtain ⟨g, g1, eg⟩ := nI_rng (b := 1) (by omega) c.2.2.2.2.1 (Int32.not_lt.mpr c.2.2.2.2.2)
      rw [et, ei, eg] at cr ⊢
      refine wp_bdQ (hearC hL.2.1 hL.1 (by omega) t1) fun μ' ⟨h1, h2⟩ => wp_bdE (gainOfC (by omega) (by omega) h1) (wp_some (wp_suml (wp_some ⟨hearKP h2, ?_⟩)))
      have h311 : μ' 311 = μ 311 := h2 311 (by omega) (by omega) (by omega) (by omega)
      have l2 : LM (610 + 109 * k) (zup μ' 310 10 (nI (610 + 109 * k))) L := ⟨by omega, zup_self _ _ _ _, fun i hi => by rw [zup_ne (by omega), h311]; exact hL.2.2 i hi⟩
      show wp (f_X12_gain 310 v1 (nI t) (nI i) (nI g) μ') _
      unfold f_X12_gain
      refine wp_bd2 (wp_of (e2 μ' h311) (wp_bd2 (wp_it cr (wp_bd2 (wp_mono (gainOfM l2 hL.1 t1 (by omega) (by omega)) fun p hp => wp_some (wp_some ⟨hp.1, ?_⟩))))))
      exact KP.tr (zup310.kp (v := nI (610 + 109 * k))) hp.2.kp
    · refine wp_ie c (wp_some (wp_sumr (wp_some ⟨KP.rf μ, ?_⟩)))
      unfold f_X12_gain
      refine wp_bd2 (wp_of (e2 μ rfl) (wp_bd2 (wp_ie (fun w => c ?_) (wp_some (wp_some ⟨rfl, zup310.kp⟩)))))
      exact ⟨(inY.mp w.2.1).1, (inY.mp w.2.1).2, (inY.mp w.2.2.1).1, (inY.mp w.2.2.1).2, (inY.mp w.2.2.2).1, Int32.not_lt.mp (inY.mp w.2.2.2).2⟩
  · refine wp_bdE e1 (wp_bd (wp_cn (wp_some (wp_sumr (wp_some ⟨KP.rf μ, ?_⟩)))))
    unfold f_X12_gain
    exact wp_bd2 (wp_of (e2 μ rfl) (wp_bd2 (wp_ie (fun w => w.1 rfl) (wp_some (wp_some ⟨rfl, KP.rf μ⟩)))))
