/-! gain, pull: those who weigh, and what a raft does that only floats -/
def sfl (L : Nat → Nat) (S : Nat → Int32) : Nat → Int32 := smove L L (sdrift L S 0) (sdrift L S 1) S
def sput (L : Nat → Nat) (g : Nat) (v : Int32) (S : Nat → Int32) (j : Nat) : Nat → Int32 := fun k => if 20 ≤ k ∧ k < 20 + j ∧ L (88 + 3 * (k - 20)) = g then v else S k
theorem sput_0 {L : Nat → Nat} {g : Nat} {v : Int32} {S : Nat → Int32} : sput L g v S 0 = S := by
  funext k
  exact if_neg (by omega)
theorem sput_y {L : Nat → Nat} {g j : Nat} {v : Int32} {S : Nat → Int32} (h : L (88 + 3 * j) = g) : su (sput L g v S j) (20 + j) v = sput L g v S (j + 1) := by
  funext k
  unfold su sput
  by_cases e : k = 20 + j
  · subst e
    rw [if_pos rfl, if_pos ⟨by omega, by omega, by rw [show 20 + j - 20 = j by omega]; exact h⟩]
  · rw [if_neg e]
    by_cases c : 20 ≤ k ∧ k < 20 + j ∧ L (88 + 3 * (k - 20)) = g
    · rw [if_pos c, if_pos ⟨c.1, by omega, c.2.2⟩]
    · rw [if_neg c, if_neg (fun w => c ⟨w.1, by omega, w.2.2⟩)]
theorem sput_n {L : Nat → Nat} {g j : Nat} {v : Int32} {S : Nat → Int32} (h : ¬ L (88 + 3 * j) = g) : sput L g v S j = sput L g v S (j + 1) := by
  funext k
  unfold sput
  by_cases c : 20 ≤ k ∧ k < 20 + j ∧ L (88 + 3 * (k - 20)) = g
  · rw [if_pos c, if_pos ⟨c.1, by omega, c.2.2⟩]
  · rw [if_neg c, if_neg (fun w => ?_)]
    by_cases e : k = 20 + j
    · subst e
      exact h (by have := w.2.2; rw [show 20 + j - 20 = j by omega] at this; exact this)
    · exact c ⟨w.1, by omega, w.2.2⟩
/-- where those of a column stand -/
def sval (L : Nat → Nat) (c : Nat) : Int32 := if c = 0 then -1 else if c = 1 then 0 else nI (L 2) - 1
def btot (L : Nat → Nat) (g c j : Nat) : Int32 := sm j (fun i => if c ≠ 0 ∧ L (88 + 3 * i) = g then nI (L (87 + 3 * i)) else 0)
theorem floatOnC {r la : Nat} {μ : zM} {L : Nat → Nat} {S : Nat → Int32} (h : RC r μ la la S) (hL : LC la μ L) (hr : la + 14 < r) (hM : SM L S) (hP : SP L L S) : wp (f_X4_floatOn r μ) (fun μ' => RC r μ' la la (sfl L S) ∧ F3 r μ μ') := by
  unfold f_X4_floatOn
  refine wp_bdE (driftC h hL hM) (wp_bdE (driftC h hL hM) (wp_bdQ (moveC h hL hL (by omega) (dir_cases _) (dir_cases _) hP) fun μ' hμ => wp_some ⟨hμ.1, fun o h0 _ _ => hμ.2 o h0⟩))
theorem boardC {r la g c : Nat} {μ : zM} {L : Nat → Nat} {S : Nat → Int32} (h : RC r μ la la S) (hL : LC la μ L) (hr : la + 14 < r) (hg : g < 2) (hc : c < 3) :
    wp (f_X3_board la r (nI g) (nI c) μ) (fun p => p.1 = btot L g c (L 14) ∧ RC r p.2 la la (if c = 0 then S else sput L g (sval L c) S (L 14)) ∧ F3 r μ p.2) := by
  have hB := hL.2.1
  have hb5 := hB.2.1.2.2.2.1
  unfold f_X3_board
  refine wp_bd2Q (Q := fun p => p.1 = btot L g c (L 14) ∧ RC r p.2 la la (if c = 0 then S else sput L g (sval L c) S (L 14)) ∧ F3 r μ p.2) ?_ (fun x μ' hx => wp_some hx)
  refine wlp0 (fun n k (s : Int32 × zM) => f_X3_board_L6 la r (nI g) (nI c) n s.1 (nI k) s.2) _ (L 14) (fun j s => s.1 = btot L g c j ∧ RC r s.2 la la (if c = 0 then S else sput L g (sval L c) S j) ∧ F3 r μ s.2) (by omega) (0, μ) ⟨rfl, by rw [sput_0]; split <;> exact h, fun _ _ _ _ => rfl⟩ ?_ ?_
  · intro n j s hj hI ih
    obtain ⟨i1, i2, i3⟩ := hI
    have l1 := i3.lc hL (by omega)
    have es : s.2 (la + 8) 2 = nI (L 14) := l1.2.2.1.2.1.2.2.2.1
    have hm := hB.2.2.2.2.2.1 j hj
    show wp (f_X3_board_L6 la r (nI g) (nI c) (n + 1) s.1 (nI j) s.2) _
    rw [f_X3_board_L6, es]
    refine wp_it ⟨nI_ge hj (by omega), nI_ge (b := 5) (by omega) (by omega)⟩ ?_
    have skip : (c ≠ 0 → ¬ L (88 + 3 * j) = g) → wp (f_X3_board_L6 la r (nI g) (nI c) n s.1 (nI j + 1) s.2) (fun p => p.1 = btot L g c (L 14) ∧ RC r p.2 la la (if c = 0 then S else sput L g (sval L c) S (L 14)) ∧ F3 r μ p.2) := fun hk => by
      rw [nI_1]
      refine ih s ⟨?_, ?_, i3⟩
      · rw [i1]
        show _ = sm j _ + (if _ then _ else _)
        rw [if_neg (fun w => hk w.1 w.2), Int32.add_zero]
        rfl
      · by_cases e : c = 0
        · rw [if_pos e] at i2 ⊢
          exact i2
        · rw [if_neg e] at i2 ⊢
          rw [← sput_n (hk e)]
          exact i2
    by_cases e : c = 0
    · have e0 : nI c = 0 := by rw [e]; rfl
      refine wp_bd2 (wp_bd (wp_it e0 (wp_some (wp_ie (by decide) (wp_some (wp_ls (skip (fun w => absurd e w))))))))
    · have e0 : ¬ nI c = 0 := fun w => e (by rw [← nI_clamp (n := c) (by omega), w]; rfl)
      refine wp_bd2 (wp_bd (wp_ie e0 (wp_bdE (mo_k l1.1 hB l1.2.2.1 rfl hj) ?_)))
      by_cases hk : L (88 + 3 * j) = g
      · refine wp_ie (fun w => w (by rw [hk])) (wp_some (wp_it rfl (wp_ls (wp_g (zin_nI (by omega) (by omega)) ?_))))
        rw [nI_clamp (by omega), linesC0 l1]
        have ev : (if ¬ nI c = (1 : Int32) then nI (L 2) - 1 else 0) = sval L c := by
          unfold sval
          rw [if_neg e]
          by_cases e1 : c = 1
          · rw [if_pos e1, if_neg (fun w => w (by rw [e1]; rfl))]
          · rw [if_neg e1, if_pos (fun w => e1 (by rw [← nI_clamp (n := c) (by omega), w]; rfl))]
        rw [ev]
        rw [if_neg e] at i2
        have g2 := i2.stand (m := j) (v := sval L c) (by omega)
        rw [sput_y hk] at g2
        have f2 : F3 r μ (zup s.2 (r + 1) j (sval L c)) := i3.tr (fun o _ h1 _ => zup_rne _ _ _ h1)
        have l2 := f2.lc hL (by omega)
        refine wp_ls (wp_bdE (mo_t l2.1 hB l2.2.2.1 rfl hj) (wp_ls (wp_some (wp_ls ?_))))
        rw [nI_1]
        refine ih (_, _) ⟨?_, ?_, f2⟩
        · show s.1 + _ = sm j _ + (if _ then _ else _)
          rw [if_pos ⟨e, hk⟩, i1]
          rfl
        · rw [if_neg e]
          exact g2
      · have hne : ¬ nI (L (88 + 3 * j)) = nI g := fun w => hk (by rw [← nI_clamp (n := L (88 + 3 * j)) (by omega), w, nI_clamp (by omega)])
        exact wp_it hne (wp_some (wp_ie (by decide) (wp_some (wp_ls (skip (fun _ => hk))))))
  · intro n s hI
    obtain ⟨i1, i2, i3⟩ := hI
    have l1 := i3.lc hL (by omega)
    have es : s.2 (la + 8) 2 = nI (L 14) := l1.2.2.1.2.1.2.2.2.1
    show wp (f_X3_board_L6 la r (nI g) (nI c) (n + 1) s.1 (nI (L 14)) s.2) _
    rw [f_X3_board_L6, es]
    exact wp_ie (fun w => w.1 (nI_le (Nat.le_refl _) (by omega))) (wp_some ⟨i1, i2, i3⟩)
