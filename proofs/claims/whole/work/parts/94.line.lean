/-! TEXTS: FAULTS, numbers and lines, told once for both sides -/
def nt (F : Nat × Nat) (k a : Nat) : Nat × Nat := if F.1 = 0 ∨ (a < F.2 ∨ a = F.2 ∧ k < F.1) then (k, a) else F
def bdT : List (List Nat) := [[2012, 2012], [1004, 1004], [11, 11], [99], [1099], [1099], [3, 3], [11, 11], [15, 1030], [1009], [1006, 9, 1], [15, 1009], [4, 15], [4], [3, 1009], [], [], [], [], [], [15], [1009], [11, 11], [7], [9], [999, 99], [3, 99], [9], [99], [999]]
def ktT : List Nat := [9, 9, 9, 9, 9, 9, 9, 0, 1, 2, 3, 4, 5, 5, 5, 5, 5, 5, 5, 5, 5, 5, 6, 7, 8, 8, 8, 8, 8, 8]
def mttT : List Nat := [0, 2, 4, 6, 7, 8, 9, 11, 12, 13, 14, 15, 0, 1, 2, 3, 4, 5, 6, 7, 8, 9, 0, 0, 0, 1, 2, 3, 4, 5]
def wnum (w : Nat) : Nat := (bdT.getD w []).length
def bd (w k : Nat) : Nat := (bdT.getD w []).getD k 0
/-- what kind of row a word tells: rocks, graves, wreaths, mourners, leaks, deeds, sights, dead, terms -/
def kt (w : Nat) : Nat := ktT.getD w 9
def mtt (w : Nat) : Nat := mttT.getD w 0
def wcbT : List Nat := [0, 2, 4, 6, 7, 8, 9]
def wcb (w : Nat) : Nat := wcbT.getD w 99
def tcpT : List Nat := [11, 12, 13, 14, 15, 0, 0, 0, 0]
def tbsT : List Nat := [16, 56, 80, 86, 101, 1, 1, 1, 1]
def tstT : List Nat := [2, 2, 1, 3, 2, 3, 2, 1, 3]
def tmxT : List Nat := [20, 12, 6, 5, 4, 40, 8, 8, 8]
def troT : List Nat := [61, 63, 65, 67, 69, 79, 81, 83, 85]
def tsrT : List Nat := [0, 0, 0, 0, 0, 1, 2, 3, 4]
/-- of a kind: its count's cell, the first row's first cell, cells a row, rows at most (the reference); its Rows, its sort (the class) -/
def tcp (t : Nat) : Nat := tcpT.getD t 0
def tbs (t : Nat) : Nat := tbsT.getD t 0
def tst (t : Nat) : Nat := tstT.getD t 0
def tmx (t : Nat) : Nat := tmxT.getD t 0
def tro (t : Nat) : Nat := troT.getD t 0
def tsr (t : Nat) : Nat := tsrT.getD t 9
def inb (w k v : Nat) : Bool := decide (bd w k / 1000 ≤ v ∧ v ≤ bd w k % 1000)
def qs (b : Nat → Nat) (n p : Nat) : Nat → Nat
  | 0 => tB b n p
  | k + 1 => tB b n (qs b n p k)
def wok (b : Nat → Nat) (n w k p q : Nat) : Bool := decide (inb w k (tN b n q) = true ∧ ¬ (w = 6 ∧ k = 1 ∧ tN b n q = tN b n (tB b n p)))
/-- a number read: FAULT and where the token lies that is looked at -/
def numS (b : Nat → Nat) (n : Nat) (ok : Nat → Bool) (s : (Nat × Nat) × Nat) : (Nat × Nat) × Nat := if s.1.1 = 1 then s else if tK b n s.2 = 2 then (if ok s.2 = true then s.1 else nt s.1 2 (tF b n s.2), tB b n s.2) else ((1, tF b n s.2), s.2)
def lnS (b : Nat → Nat) (n w p : Nat) : Nat → (Nat × Nat) × Nat → (Nat × Nat) × Nat
  | 0, s => s
  | k + 1, s => numS b n (wok b n w k p) (lnS b n w p k s)
def fok (b : Nat → Nat) (n q st : Nat) : Bool := decide (tN b n q ≤ 7 ∧ st.testBit (tN b n q) = false)
/-- further graves of one of the dead -/
def fgS (b : Nat → Nat) (n : Nat) : Nat → ((Nat × Nat) × Nat) × Nat → ((Nat × Nat) × Nat) × Nat
  | 0, x => x
  | j + 1, x => if x.1.1.1 ≠ 1 ∧ tK b n x.1.2 = 2 then fgS b n j ((if fok b n x.1.2 x.2 = true then x.1.1 else nt x.1.1 2 (tF b n x.1.2), tB b n x.1.2), if fok b n x.1.2 x.2 = true then x.2 ||| 2 ^ tN b n x.1.2 else x.2) else x
def lnE (b : Nat → Nat) (n : Nat) (s : (Nat × Nat) × Nat) : (Nat × Nat) × Nat := if s.1.1 = 1 then s else if tK b n s.2 = 3 then (s.1, tB b n s.2) else ((1, tF b n s.2), s.2)
def set0 (b : Nat → Nat) (n p : Nat) : Nat := if inb 23 0 (tN b n (tB b n p)) = true then 2 ^ tN b n (tB b n p) else 0
def numsS (b : Nat → Nat) (n w p : Nat) (F : Nat × Nat) : ((Nat × Nat) × Nat) × Nat := if w = 23 then fgS b n n (lnS b n w p 1 (F, tB b n p), set0 b n p) else (lnS b n w p (wnum w) (F, tB b n p), 0)
def fullW (w : Nat) (R : Nat → Int32) : Bool := decide (7 ≤ w ∧ tmx (kt w) ≤ (R (tcp (kt w))).toNatClampNeg)
/-- a further row of a kind -/
def updR (t : Nat) (row : Nat → Int32) (R : Nat → Int32) : Nat → Int32 := fun i => if i = tcp t then R (tcp t) + 1 else if tbs t + tst t * (R (tcp t)).toNatClampNeg ≤ i ∧ i < tbs t + tst t * (R (tcp t)).toNatClampNeg + tst t then row (i - (tbs t + tst t * (R (tcp t)).toNatClampNeg)) else R i
def rowWd (w : Nat) (nv : Nat → Int32) (i : Nat) : Int32 := if wsr w = 1 ∨ wsr w = 4 then (if i = 0 then nI (mtt w) else nv (i - 1)) else nv i
def updW (w : Nat) (nv R : Nat → Int32) : Nat → Int32 := if w < 7 then (fun i => if wcb w ≤ i ∧ i < wcb w + wnum w then nv (i - wcb w) else R i) else updR (kt w) (rowWd w nv) R
def nvS (b : Nat → Nat) (n w p st : Nat) (i : Nat) : Int32 := if w = 23 ∧ i = 0 then nI st else if i < wnum w then nI (tN b n (qs b n p i)) else -1
/-- a line of a sort at p: FAULT, what is told, where the next token is looked at -/
def lineS (b : Nat → Nat) (n s p : Nat) (F : Nat × Nat) (R : Nat → Int32) : ((Nat × Nat) × Nat) × (Nat → Int32) := match wsel b n s p with
  | none => (((1, tF b n p), p), R)
  | some w => (lnE b n (numsS b n w p (if fullW w R = true then nt F 3 (tF b n p) else F)).1, if (lnE b n (numsS b n w p (if fullW w R = true then nt F 3 (tF b n p) else F)).1).1.1 = 1 ∨ fullW w R = true then R else updW w (nvS b n w p (numsS b n w p (if fullW w R = true then nt F 3 (tF b n p) else F)).2) R)
theorem nt_0 {F : Nat × Nat} {k a : Nat} (h : F.1 = 0) : nt F k a = (k, a) := if_pos (Or.inl h)
theorem nt_late {F : Nat × Nat} {k a : Nat} (h0 : F.1 ≠ 0) (h : F.2 < a) : nt F k a = F := if_neg (by omega)
theorem nt_or (F : Nat × Nat) (k a : Nat) : nt F k a = (k, a) ∨ nt F k a = F := by
  unfold nt
  split
  · exact Or.inl rfl
  · exact Or.inr rfl
theorem nt_ne0 {F : Nat × Nat} {k a : Nat} (hk : k ≠ 0) : (nt F k a).1 ≠ 0 := by
  unfold nt
  split
  · exact hk
  · rename_i h
    omega
theorem nt_ne1 {F : Nat × Nat} {k a : Nat} (h : F.1 ≠ 1) (hk : k ≠ 1) : (nt F k a).1 ≠ 1 := by
  rcases nt_or F k a with e | e
  · rw [e]
    exact hk
  · rw [e]
    exact h
theorem nt_bd {F : Nat × Nat} {k a : Nat} (h : F.1 ≤ 6 ∧ F.2 ≤ 600) (hk : k ≤ 6) (ha : a ≤ 600) : (nt F k a).1 ≤ 6 ∧ (nt F k a).2 ≤ 600 := by
  rcases nt_or F k a with e | e
  · rw [e]
    exact ⟨hk, ha⟩
  · rw [e]
    exact h
theorem nt_comm {F : Nat × Nat} {k a j c : Nat} (hk : k ≠ 0) (hj : j ≠ 0) : nt (nt F k a) j c = nt (nt F j c) k a := by
  obtain ⟨x, y⟩ := F
  by_cases hA : x = 0 ∨ (a < y ∨ a = y ∧ k < x)
  · rw [show nt (x, y) k a = (k, a) from if_pos hA]
    by_cases hB : x = 0 ∨ (c < y ∨ c = y ∧ j < x)
    · rw [show nt (x, y) j c = (j, c) from if_pos hB]
      show (if k = 0 ∨ (c < a ∨ c = a ∧ j < k) then (j, c) else (k, a)) = (if j = 0 ∨ (a < c ∨ a = c ∧ k < j) then (k, a) else (j, c))
      by_cases h1 : c < a ∨ c = a ∧ j < k
      · rw [if_pos (Or.inr h1), if_neg (by omega)]
      · by_cases h2 : a < c ∨ a = c ∧ k < j
        · rw [if_neg (by omega), if_pos (Or.inr h2)]
        · rw [if_neg (by omega), if_neg (by omega)]
          exact Prod.ext (by show k = j; omega) (by show a = c; omega)
    · rw [show nt (x, y) j c = (x, y) from if_neg hB, show nt (x, y) k a = (k, a) from if_pos hA]
      exact if_neg (by show ¬ (k = 0 ∨ (c < a ∨ c = a ∧ j < k)); omega)
  · rw [show nt (x, y) k a = (x, y) from if_neg hA]
    by_cases hB : x = 0 ∨ (c < y ∨ c = y ∧ j < x)
    · rw [show nt (x, y) j c = (j, c) from if_pos hB]
      exact (if_neg (by show ¬ (j = 0 ∨ (a < c ∨ a = c ∧ k < j)); omega)).symm
    · rw [show nt (x, y) j c = (x, y) from if_neg hB, show nt (x, y) k a = (x, y) from if_neg hA]
section LINE
variable {b : Nat → Nat} {n w p : Nat}
theorem numS_1 {ok : Nat → Bool} {s : (Nat × Nat) × Nat} (h : s.1.1 = 1) : numS b n ok s = s := if_pos h
theorem numS_y {ok : Nat → Bool} {s : (Nat × Nat) × Nat} (h : s.1.1 ≠ 1) (h2 : tK b n s.2 = 2) : numS b n ok s = (if ok s.2 = true then s.1 else nt s.1 2 (tF b n s.2), tB b n s.2) := by
  unfold numS
  rw [if_neg h, if_pos h2]
theorem numS_n {ok : Nat → Bool} {s : (Nat × Nat) × Nat} (h : s.1.1 ≠ 1) (h2 : tK b n s.2 ≠ 2) : numS b n ok s = ((1, tF b n s.2), s.2) := by
  unfold numS
  rw [if_neg h, if_neg h2]
theorem lnS_stuck {s : (Nat × Nat) × Nat} {k : Nat} (h : (lnS b n w p k s).1.1 = 1) : ∀ j, lnS b n w p (k + j) s = lnS b n w p k s
  | 0 => rfl
  | j + 1 => by
    show numS b n (wok b n w (k + j) p) (lnS b n w p (k + j) s) = _
    rw [lnS_stuck h j, numS_1 h]
theorem lnS_stuck' {s : (Nat × Nat) × Nat} {k m : Nat} (h : (lnS b n w p k s).1.1 = 1) (hm : k ≤ m) : lnS b n w p m s = lnS b n w p k s := by
  obtain ⟨j, rfl⟩ : ∃ j, m = k + j := ⟨m - k, by omega⟩
  exact lnS_stuck h j
theorem qs_le (hp : p ≤ n) : ∀ k, qs b n p k ≤ n
  | 0 => tB_le hp
  | k + 1 => tB_le (qs_le hp k)
theorem lnS_pos {F : Nat × Nat} : ∀ k, (lnS b n w p k (F, tB b n p)).1.1 ≠ 1 → (lnS b n w p k (F, tB b n p)).2 = qs b n p k ∧ F.1 ≠ 1 ∧ ∀ i, i < k → tK b n (qs b n p i) = 2
  | 0, h => ⟨rfl, h, fun i hi => absurd hi (by omega)⟩
  | k + 1, h => by
    have h : (numS b n (wok b n w k p) (lnS b n w p k (F, tB b n p))).1.1 ≠ 1 := h
    show (numS b n (wok b n w k p) (lnS b n w p k (F, tB b n p))).2 = tB b n (qs b n p k) ∧ _
    by_cases h1 : (lnS b n w p k (F, tB b n p)).1.1 = 1
    · rw [numS_1 h1] at h
      exact absurd h1 h
    · obtain ⟨i1, i2, i3⟩ := lnS_pos k h1
      by_cases h2 : tK b n (lnS b n w p k (F, tB b n p)).2 = 2
      · rw [numS_y h1 h2, i1]
        rw [i1] at h2
        refine ⟨rfl, i2, fun i hi => ?_⟩
        by_cases hk : i = k
        · rw [hk]
          exact h2
        · exact i3 i (by omega)
      · rw [numS_n h1 h2] at h
        exact absurd rfl h
theorem lnS_le {F : Nat × Nat} (hp : p ≤ n) : ∀ k, (lnS b n w p k (F, tB b n p)).2 ≤ n
  | 0 => tB_le hp
  | k + 1 => by
    show (numS b n (wok b n w k p) (lnS b n w p k (F, tB b n p))).2 ≤ n
    have ih := lnS_le (F := F) hp k
    unfold numS
    split
    · exact ih
    · split
      · exact tB_le ih
      · exact ih
theorem lnS_0 {F : Nat × Nat} : ∀ k, (lnS b n w p k (F, tB b n p)).1.1 = 0 → F.1 = 0 ∧ ∀ i, i < k → wok b n w i p (qs b n p i) = true
  | 0, h => ⟨h, fun i hi => absurd hi (by omega)⟩
  | k + 1, h => by
    have h : (numS b n (wok b n w k p) (lnS b n w p k (F, tB b n p))).1.1 = 0 := h
    by_cases h1 : (lnS b n w p k (F, tB b n p)).1.1 = 1
    · rw [numS_1 h1] at h
      omega
    · have i1 := (lnS_pos k h1).1
      by_cases h2 : tK b n (lnS b n w p k (F, tB b n p)).2 = 2
      · rw [numS_y h1 h2, i1] at h
        by_cases h3 : wok b n w k p (qs b n p k) = true
        · rw [if_pos h3] at h
          obtain ⟨i2, i3⟩ := lnS_0 k h
          refine ⟨i2, fun i hi => ?_⟩
          by_cases hk : i = k
          · rw [hk]
            exact h3
          · exact i3 i (by omega)
        · rw [if_neg h3] at h
          exact absurd h (nt_ne0 (by omega))
      · rw [numS_n h1 h2] at h
        cases h
/-- with the FAULT 3 of the line's first token told before or behind -/
def N3 (a : Nat) (s s' : (Nat × Nat) × Nat) : Prop := s'.2 = s.2 ∧ (s.1.1 = 1 ∧ s'.1 = s.1 ∨ s.1.1 ≠ 1 ∧ s'.1 = nt s.1 3 a)
theorem N3.num {a : Nat} {ok : Nat → Bool} {s s' : (Nat × Nat) × Nat} (h : N3 a s s') : N3 a (numS b n ok s) (numS b n ok s') := by
  obtain ⟨h2, ⟨e1, e2⟩ | ⟨e1, e2⟩⟩ := h
  · rw [numS_1 e1, numS_1 (by rw [e2]; exact e1)]
    exact ⟨h2, Or.inl ⟨e1, e2⟩⟩
  · have e3 : s'.1.1 ≠ 1 := by rw [e2]; exact nt_ne1 e1 (by omega)
    by_cases hk : tK b n s.2 = 2
    · rw [numS_y e1 hk, numS_y e3 (by rw [h2]; exact hk), h2]
      refine ⟨rfl, Or.inr ⟨?_, ?_⟩⟩
      · show (if ok s.2 = true then s.1 else nt s.1 2 (tF b n s.2)).1 ≠ 1
        split
        · exact e1
        · exact nt_ne1 e1 (by omega)
      · show (if ok s.2 = true then s'.1 else nt s'.1 2 (tF b n s.2)) = nt (if ok s.2 = true then s.1 else nt s.1 2 (tF b n s.2)) 3 a
        split
        · exact e2
        · rw [e2]
          exact nt_comm (by omega) (by omega)
    · rw [numS_n e1 hk, numS_n e3 (by rw [h2]; exact hk), h2]
      exact ⟨rfl, Or.inl ⟨rfl, rfl⟩⟩
theorem N3.ln {a : Nat} {s s' : (Nat × Nat) × Nat} (h : N3 a s s') : ∀ k, N3 a (lnS b n w p k s) (lnS b n w p k s')
  | 0 => h
  | k + 1 => (N3.ln h k).num
theorem N3.fg {a : Nat} : ∀ j {s s' : (Nat × Nat) × Nat} {st : Nat}, N3 a s s' → N3 a (fgS b n j (s, st)).1 (fgS b n j (s', st)).1 ∧ (fgS b n j (s', st)).2 = (fgS b n j (s, st)).2
  | 0, s, s', st, h => ⟨h, rfl⟩
  | j + 1, s, s', st, h => by
    obtain ⟨h2, ⟨e1, e2⟩ | ⟨e1, e2⟩⟩ := h
    · rw [show fgS b n (j + 1) (s, st) = (s, st) from if_neg (fun w => w.1 e1), show fgS b n (j + 1) (s', st) = (s', st) from if_neg (fun w => w.1 (by show s'.1.1 = 1; rw [e2]; exact e1))]
      exact ⟨⟨h2, Or.inl ⟨e1, e2⟩⟩, rfl⟩
    · have e3 : s'.1.1 ≠ 1 := by rw [e2]; exact nt_ne1 e1 (by omega)
      by_cases hk : tK b n s.2 = 2
      · rw [show fgS b n (j + 1) (s, st) = fgS b n j ((if fok b n s.2 st = true then s.1 else nt s.1 2 (tF b n s.2), tB b n s.2), if fok b n s.2 st = true then st ||| 2 ^ tN b n s.2 else st) from if_pos ⟨e1, hk⟩,
          show fgS b n (j + 1) (s', st) = fgS b n j ((if fok b n s'.2 st = true then s'.1 else nt s'.1 2 (tF b n s'.2), tB b n s'.2), if fok b n s'.2 st = true then st ||| 2 ^ tN b n s'.2 else st) from if_pos ⟨e3, by show tK b n s'.2 = 2; rw [h2]; exact hk⟩, h2]
        refine N3.fg j ⟨rfl, Or.inr ⟨?_, ?_⟩⟩
        · show (if fok b n s.2 st = true then s.1 else nt s.1 2 (tF b n s.2)).1 ≠ 1
          split
          · exact e1
          · exact nt_ne1 e1 (by omega)
        · show (if fok b n s.2 st = true then s'.1 else nt s'.1 2 (tF b n s.2)) = nt (if fok b n s.2 st = true then s.1 else nt s.1 2 (tF b n s.2)) 3 a
          split
          · exact e2
          · rw [e2]
            exact nt_comm (by omega) (by omega)
      · rw [show fgS b n (j + 1) (s, st) = (s, st) from if_neg (fun w => hk w.2), show fgS b n (j + 1) (s', st) = (s', st) from if_neg (fun w => hk (by have := w.2; rw [show (s', st).1.2 = s'.2 from rfl, h2] at this; exact this))]
        exact ⟨⟨h2, Or.inr ⟨e1, e2⟩⟩, rfl⟩
theorem N3.nums {F : Nat × Nat} (hF : F.1 ≠ 1) (a : Nat) : N3 a (numsS b n w p F).1 (numsS b n w p (nt F 3 a)).1 ∧ (numsS b n w p (nt F 3 a)).2 = (numsS b n w p F).2 := by
  have h0 : N3 a (F, tB b n p) (nt F 3 a, tB b n p) := ⟨rfl, Or.inr ⟨hF, rfl⟩⟩
  unfold numsS
  split
  · exact N3.fg n (N3.ln h0 1)
  · exact ⟨N3.ln h0 _, rfl⟩
theorem N3.le {a : Nat} {s s' : (Nat × Nat) × Nat} (h : N3 a s s') : N3 a (lnE b n s) (lnE b n s') := by
  obtain ⟨h2, ⟨e1, e2⟩ | ⟨e1, e2⟩⟩ := h
  · rw [show lnE b n s = s from if_pos e1, show lnE b n s' = s' from if_pos (by rw [e2]; exact e1)]
    exact ⟨h2, Or.inl ⟨e1, e2⟩⟩
  · have e3 : s'.1.1 ≠ 1 := by rw [e2]; exact nt_ne1 e1 (by omega)
    unfold lnE
    rw [if_neg e1, if_neg e3, h2]
    split
    · exact ⟨rfl, Or.inr ⟨e1, e2⟩⟩
    · exact ⟨rfl, Or.inl ⟨rfl, rfl⟩⟩
end LINE
/-! the class reads numbers -/
def FF (F : Nat × Nat) (μ : zM) : Prop := (F.1 ≤ 6 ∧ F.2 ≤ 600) ∧ μ 58 2 = nI F.1 ∧ μ 58 3 = (if F.1 = 0 then -1 else nI F.2)
def FN (μ μ' : zM) : Prop := (∀ o, o ≠ 58 → μ' o = μ o) ∧ ∀ j, j ≠ 2 → j ≠ 3 → μ' 58 j = μ 58 j
def CS (b : Nat → Nat) (n : Nat) (s : (Nat × Nat) × Nat) (μ : zM) : Prop := TX b n μ ∧ FF s.1 μ ∧ s.2 ≤ n ∧ (s.1.1 ≠ 1 → TC b n s.2 μ)
def FD (μ μ' : zM) : Prop := ∀ o, o ≠ 58 → o ≠ 76 → μ' o = μ o
section CLASSNUM
variable {b : Nat → Nat} {n w p : Nat} {μ μ' : zM} {F : Nat × Nat}
theorem FD.tr {μ1 μ2 : zM} (h : FD μ μ1) (k : FD μ1 μ2) : FD μ μ2 := fun o h1 h2 => (k o h1 h2).trans (h o h1 h2)
theorem FC.fd (f : FC μ μ') : FD μ μ' := fun o h1 _ => f.1 o h1
theorem FN.fd (f : FN μ μ') : FD μ μ' := fun o h1 _ => f.1 o h1
theorem FF.fc (h : FF F μ) (f : FC μ μ') : FF F μ' := ⟨h.1, by rw [f.2 2 (by omega)]; exact h.2.1, by rw [f.2 3 (by omega)]; exact h.2.2⟩
theorem TX.fn (h : TX b n μ) (f : FN μ μ') : TX b n μ' := ⟨h.1, by rw [f.2 4 (by omega) (by omega)]; exact h.2.1, by rw [f.2 5 (by omega) (by omega)]; exact h.2.2.1, by rw [f.1 2 (by omega)]; exact h.2.2.2⟩
theorem TC.fn {q : Nat} (h : TC b n q μ) (f : FN μ μ') : TC b n q μ' := by
  unfold TC at h ⊢
  rw [f.2 6 (by omega) (by omega), f.2 7 (by omega) (by omega), f.2 8 (by omega) (by omega), f.2 9 (by omega) (by omega)]
  exact h
theorem putF {k a : Nat} (hk : 0 < k ∧ k ≤ 6) (ha : a ≤ 600) : FF (k, a) (zup (zup μ 58 2 (nI k)) 58 3 (nI a)) ∧ FN μ (zup (zup μ 58 2 (nI k)) 58 3 (nI a)) := by
  refine ⟨⟨⟨hk.2, ha⟩, ?_, ?_⟩, fun o ho => ?_, fun j h1 h2 => ?_⟩
  · rw [zup_ne (by omega), zup_self]
  · rw [zup_self, if_neg (by show ¬ k = 0; omega)]
  · rw [zup_rne _ _ _ ho, zup_rne _ _ _ ho]
  · rw [zup_ne (by omega), zup_ne (by omega)]
theorem noteC {k a : Nat} {v u : Int32} (hF : FF F μ) (h1 : F.1 ≠ 1) (hk : 0 < k ∧ k ≤ 6) (ha : a ≤ 600) (hv : v = nI k) (hw : u = nI a) : FF (nt F k a) (f_X5_note 58 v u μ) ∧ FN μ (f_X5_note 58 v u μ) := by
  subst hv hw
  obtain ⟨⟨b1, b2⟩, e2, e3⟩ := hF
  have hc : (μ 58 2 = 0 ∨ ¬ μ 58 2 = 1 ∧ (nI a < μ 58 3 ∨ nI a = μ 58 3 ∧ ¬ μ 58 2 ≤ nI k)) ↔ (F.1 = 0 ∨ (a < F.2 ∨ a = F.2 ∧ k < F.1)) := by
    rw [e2, e3, show (0 : Int32) = nI 0 from rfl, show (1 : Int32) = nI 1 from rfl, nI_eq (by omega) (by omega), nI_eq (by omega) (by omega)]
    by_cases h0 : F.1 = 0
    · exact ⟨fun _ => Or.inl h0, fun _ => Or.inl h0⟩
    · rw [if_neg h0, nI_ltI (by omega) (by omega), nI_eq (by omega) (by omega), nI_leI (by omega) (by omega)]
      omega
  unfold f_X5_note zl nt
  by_cases h : F.1 = 0 ∨ (a < F.2 ∨ a = F.2 ∧ k < F.1)
  · rw [if_pos (hc.mpr h), if_pos h]
    exact putF hk ha
  · rw [if_neg (fun w => h (hc.mp w)), if_neg h]
    exact ⟨⟨⟨b1, b2⟩, e2, e3⟩, fun _ _ => rfl, fun _ _ _ => rfl⟩
theorem breakC {f : Nat} (h7 : μ 58 7 = nI f) (hf : f ≤ 600) : FF (1, f) (f_X5_breakOff 58 μ) ∧ FN μ (f_X5_breakOff 58 μ) := by
  unfold f_X5_breakOff
  show FF (1, f) (zup (zup μ 58 2 1) 58 3 (zup μ 58 2 1 58 7)) ∧ FN μ (zup (zup μ 58 2 1) 58 3 (zup μ 58 2 1 58 7))
  rw [zup_ne (μ := μ) (by omega), h7]
  exact putF (k := 1) (by omega) hf
theorem wnum_le : ∀ w, w < 30 → wnum w ≤ 3 := by decide +kernel
theorem takesC : ∀ w, w < 30 → ∀ k, k < 3 → f_X10_takesNumber w (nI k) = if k < wnum w then 1 else 0 := by decide +kernel
theorem boundsC : ∀ w, w < 30 → ∀ k, k < wnum w → f_X10_bounds w (nI k) = nI (bd w k) ∧ bd w k < 3000 := by decide +kernel
theorem allowsC {k v : Nat} (hw : w < 30) (hk : k < wnum w) (hv : v < 100000) : f_X10_allows w (nI k) (nI v) = b2i (inb w k v) := by
  obtain ⟨h1, h2⟩ := boundsC w hw k hk
  unfold f_X10_allows inb b2i
  rw [h1]
  show (if ¬ nI v < nI (bd w k) / nI 1000 ∧ ¬ nI (bd w k) % nI 1000 < nI v then (1 : Int32) else 0) = _
  rw [pk_div (by omega) (by omega) (by omega), nI_rem (by omega) (by omega) (by omega)]
  by_cases h : bd w k / 1000 ≤ v ∧ v ≤ bd w k % 1000
  · rw [if_pos ⟨nI_nlt h.1 (by omega), nI_nlt h.2 (by omega)⟩, if_pos (decide_eq_true h)]
  · rw [if_neg (fun z => h ⟨Nat.le_of_not_lt fun q => z.1 (nI_lt q (by omega)), Nat.le_of_not_lt fun q => z.2 (nI_lt q (by omega))⟩), if_neg (by rw [decide_eq_false h]; decide)]
theorem rd2 : wp (f_X5_readNumbers_L2 58 w zFU 0 μ) (fun μ' => (∀ o, o ≠ 76 → μ' o = μ o) ∧ ∀ i, i < 3 → μ' 76 i = -1) := by
  refine wlp0 (fun n' k μ' => f_X5_readNumbers_L2 58 w n' (nI k) μ') _ 3 (fun k μ' => (∀ o, o ≠ 76 → μ' o = μ o) ∧ ∀ i, i < k → μ' 76 i = -1) (by omega) μ ⟨fun _ _ => rfl, fun i hi => absurd hi (by omega)⟩ ?_ ?_
  · intro m k μ1 hk ⟨i1, i2⟩ ih
    show wp (f_X5_readNumbers_L2 58 w (m + 1) (nI k) μ1) _
    rw [f_X5_readNumbers_L2, nI_clamp (by omega)]
    refine wp_ie (nI_ge (b := 3) hk (by omega)) (wp_g (zin_nI hk (by omega)) (wp_u fun μ2 u => wp_ls ?_))
    rw [nI_1]
    refine ih μ2 ⟨fun o ho => (u.2.1 o ho).trans (i1 o ho), fun i hi => ?_⟩
    by_cases hik : i = k
    · rw [hik]
      exact u.1
    · exact (u.2.2 i hik).trans (i2 i (by omega))
  · intro m μ1 ⟨i1, i2⟩
    show wp (f_X5_readNumbers_L2 58 w (m + 1) (nI 3) μ1) _
    rw [f_X5_readNumbers_L2]
    exact wp_it (nI_le (a := 3) (by omega) (by omega)) (wp_some ⟨i1, i2⟩)
theorem wok_iff {k q : Nat} : wok b n w k p q = true ↔ inb w k (tN b n q) = true ∧ ¬ (w = 6 ∧ k = 1 ∧ tN b n q = tN b n (tB b n p)) := decide_eq_true_iff
theorem rd22 (hw : w < 30) (hp : p ≤ n) : ∀ d k m (μ : zM), k + d = wnum w → 3 < m + k → TX b n μ → FF (lnS b n w p k (F, tB b n p)).1 μ → (lnS b n w p k (F, tB b n p)).1.1 ≠ 1 → TC b n (lnS b n w p k (F, tB b n p)).2 μ → (∀ i, i < 3 → μ 76 i = if i < k then nI (tN b n (qs b n p i)) else -1) →
    wp (f_X5_readNumbers_L22 58 w m (nI k) μ) (fun r => ∃ μ', (r = .inl μ' ∨ r = .inr μ') ∧ CS b n (lnS b n w p (wnum w) (F, tB b n p)) μ' ∧ ((lnS b n w p (wnum w) (F, tB b n p)).1.1 ≠ 1 → ∀ i, i < 3 → μ' 76 i = if i < wnum w then nI (tN b n (qs b n p i)) else -1) ∧ FD μ μ') := by
  intro d
  have hw3 := wnum_le w hw
  induction d with
  | zero =>
    intro k m μ hk hm hX hF h1 hT hN
    obtain ⟨m, rfl⟩ : ∃ m', m = m' + 1 := ⟨m - 1, by omega⟩
    have hk' : k = wnum w := by omega
    subst hk'
    rw [f_X5_readNumbers_L22]
    refine wp_ie ?_ (wp_some ⟨μ, Or.inr rfl, ⟨hX, hF, lnS_le hp _, fun _ => hT⟩, fun _ => hN, fun _ _ _ => rfl⟩)
    rintro ⟨c1, c2⟩
    by_cases h3 : wnum w < 3
    · rw [takesC w hw _ h3, if_neg (by omega)] at c2
      exact c2 rfl
    · exact c1 (nI_le (a := 3) (by omega) (by omega))
  | succ d ih =>
    intro k m μ hk hm hX hF h1 hT hN
    obtain ⟨m, rfl⟩ : ∃ m', m = m' + 1 := ⟨m - 1, by omega⟩
    have hn := hX.1.1
    have hb := hX.1.2
    have hkw : k < wnum w := by omega
    have hk3 : k < 3 := by omega
    obtain ⟨q1, q2, q3⟩ := lnS_pos k h1
    have hle := lnS_le (b := b) (w := w) (F := F) hp k
    have hfl := tF_le (b := b) hle
    rw [f_X5_readNumbers_L22]
    refine wp_it ⟨nI_ge (b := 3) hk3 (by omega), by rw [takesC w hw k hk3, if_pos hkw]; decide⟩ ?_
    by_cases hk2 : tK b n (lnS b n w p k (F, tB b n p)).2 = 2
    · refine wp_it (by rw [hT.1, hk2]; rfl) (wp_l fun x29 h29 => wp_l fun μ4 h4 => wp_g (zin_nI hk3 (by omega)) ?_)
      have h9 : μ 58 9 = nI (tN b n (lnS b n w p k (F, tB b n p)).2) := hT.2.2.2 hk2
      have hlt := tN_lt (n := n) (p := (lnS b n w p k (F, tB b n p)).2) hb
      have hlt0 := tN_lt (n := n) (p := tB b n p) hb
      have hx : (¬ x29 = 0) ↔ (w = 6 ∧ k = 1 ∧ tN b n (lnS b n w p k (F, tB b n p)).2 = tN b n (tB b n p)) := by
        rw [h29, h9]
        by_cases c : w = 6 ∧ k = 1
        · have e0 : μ (58 + 18) 0 = nI (tN b n (tB b n p)) := by
            have := hN 0 (by omega)
            rw [if_pos (by omega)] at this
            exact this
          rw [e0]
          by_cases e : tN b n (lnS b n w p k (F, tB b n p)).2 = tN b n (tB b n p)
          · rw [if_pos ⟨c.1, by rw [c.2]; rfl, by rw [e]⟩]
            exact ⟨fun _ => ⟨c.1, c.2, e⟩, fun _ => by decide⟩
          · rw [if_neg (fun z => e ((nI_eq (by omega) (by omega)).mp z.2.2))]
            exact ⟨fun z => absurd rfl z, fun z => absurd z.2.2 e⟩
        · rw [if_neg (fun z => c ⟨z.1, (nI_eq (b := 1) (by omega) (by omega)).mp z.2.1⟩)]
          exact ⟨fun z => absurd rfl z, fun z => absurd ⟨z.1, z.2.1⟩ c⟩
      have hbad : (f_X10_allows w (nI k) (μ 58 9) = 0 ∨ ¬ x29 = 0) ↔ ¬ wok b n w k p (lnS b n w p k (F, tB b n p)).2 = true := by
        rw [hx, h9, allowsC hw hkw hlt, b2i_ne, wok_iff]
        by_cases a : inb w k (tN b n (lnS b n w p k (F, tB b n p)).2) = true
        · by_cases c : w = 6 ∧ k = 1 ∧ tN b n (lnS b n w p k (F, tB b n p)).2 = tN b n (tB b n p)
          · exact ⟨fun _ z => z.2 c, fun _ => Or.inr c⟩
          · refine ⟨fun z => ?_, fun z => absurd ⟨a, c⟩ z⟩
            rcases z with z | z
            · rw [a] at z
              cases z
            · exact absurd z c
        · exact ⟨fun _ z => a z.1, fun _ => Or.inl (Bool.not_eq_true _ ▸ a)⟩
      have h34 : FF (if wok b n w k p (lnS b n w p k (F, tB b n p)).2 = true then (lnS b n w p k (F, tB b n p)).1 else nt (lnS b n w p k (F, tB b n p)).1 2 (tF b n (lnS b n w p k (F, tB b n p)).2)) μ4 ∧ FN μ μ4 := by
        rw [h4]
        by_cases c : wok b n w k p (lnS b n w p k (F, tB b n p)).2 = true
        · rw [if_pos c, if_neg (fun z => (hbad.mp z) c)]
          exact ⟨hF, fun _ _ => rfl, fun _ _ _ => rfl⟩
        · rw [if_neg c, if_pos (hbad.mpr c)]
          exact noteC hF h1 (by omega) (by omega) rfl hT.2.1
      have es : lnS b n w p (k + 1) (F, tB b n p) = (if wok b n w k p (lnS b n w p k (F, tB b n p)).2 = true then (lnS b n w p k (F, tB b n p)).1 else nt (lnS b n w p k (F, tB b n p)).1 2 (tF b n (lnS b n w p k (F, tB b n p)).2), tB b n (lnS b n w p k (F, tB b n p)).2) := numS_y h1 hk2
      have hT4 := hT.fn h34.2
      rw [nI_clamp (by omega)]
      refine wp_u fun μ5 u5 => ?_
      have g5 : ∀ o, o ≠ 76 → μ5 o = μ4 o := u5.2.1
      have x5 : TX b n μ5 := by
        have := hX.fn h34.2
        unfold TX at this ⊢
        rw [g5 58 (by omega), g5 2 (by omega)]
        exact this
      refine wp_bdQ (tlookC (p := tB b n (lnS b n w p k (F, tB b n p)).2) x5 (by rw [g5 58 (by omega)]; exact hT4.2.2.1) (tB_le hle)) fun μ6 ⟨t6, f6⟩ => wp_ls ?_
      rw [nI_1]
      have d6 : FD μ μ6 := (FN.fd h34.2).tr (FD.tr (fun o _ h => g5 o h) (FC.fd f6))
      have ff6 : FF (lnS b n w p (k + 1) (F, tB b n p)).1 μ6 := by
        rw [es]
        have : FF (if wok b n w k p (lnS b n w p k (F, tB b n p)).2 = true then (lnS b n w p k (F, tB b n p)).1 else nt (lnS b n w p k (F, tB b n p)).1 2 (tF b n (lnS b n w p k (F, tB b n p)).2)) μ5 := by
          have := h34.1
          unfold FF at this ⊢
          rw [g5 58 (by omega)]
          exact this
        exact this.fc f6
      obtain ⟨r, er, μ', o1, o2, o3, o4⟩ := ih (k + 1) m μ6 (by omega) (by omega) (x5.fc f6) ff6 (by
        rw [es]
        show (if wok b n w k p (lnS b n w p k (F, tB b n p)).2 = true then (lnS b n w p k (F, tB b n p)).1 else nt (lnS b n w p k (F, tB b n p)).1 2 (tF b n (lnS b n w p k (F, tB b n p)).2)).1 ≠ 1
        split
        · exact h1
        · exact nt_ne1 h1 (by omega)) (by rw [es]; exact t6) (by
        intro i hi
        rw [f6.1 76 (by omega)]
        by_cases hik : i = k
        · rw [hik, if_pos (by omega)]
          have : μ5 76 k = μ4 58 9 := u5.1
          rw [this, hT4.2.2.2 hk2, q1]
        · have : μ5 76 i = μ4 76 i := u5.2.2 i hik
          rw [this, h34.2.1 76 (by omega), hN i hi]
          by_cases h5 : i < k
          · rw [if_pos h5, if_pos (by omega)]
          · rw [if_neg h5, if_neg (by omega)])
      exact ⟨r, er, μ', o1, o2, o3, d6.tr o4⟩
    · refine wp_ie (fun z => hk2 ((nI_eq (b := 2) (by have := tK_le (b := b) (n := n) (p := (lnS b n w p k (F, tB b n p)).2); omega) (by omega)).mp (by rw [← hT.1]; exact z))) (wp_ls (wp_some ⟨_, Or.inl rfl, ?_⟩))
      obtain ⟨g1, g2⟩ := breakC hT.2.1 (by omega)
      have es : lnS b n w p (k + 1) (F, tB b n p) = ((1, tF b n (lnS b n w p k (F, tB b n p)).2), (lnS b n w p k (F, tB b n p)).2) := numS_n h1 hk2
      have e2 : lnS b n w p (wnum w) (F, tB b n p) = ((1, tF b n (lnS b n w p k (F, tB b n p)).2), (lnS b n w p k (F, tB b n p)).2) := by
        rw [lnS_stuck' (k := k + 1) (by rw [es]) (by omega), es]
      rw [e2]
      exact ⟨⟨hX.fn g2, g1, hle, fun z => absurd rfl z⟩, fun z => absurd rfl z, FN.fd g2⟩
theorem rdC (hw : w < 30) (hp : p ≤ n) (hX : TX b n μ) (hF : FF F μ) (h1 : F.1 ≠ 1) (hT : TC b n (tB b n p) μ) :
    wp (f_X5_readNumbers 58 w μ) (fun μ' => CS b n (lnS b n w p (wnum w) (F, tB b n p)) μ' ∧ ((lnS b n w p (wnum w) (F, tB b n p)).1.1 ≠ 1 → ∀ i, i < 3 → μ' 76 i = if i < wnum w then nI (tN b n (qs b n p i)) else -1) ∧ FD μ μ') := by
  unfold f_X5_readNumbers
  refine wp_bdQ (rd2 (w := w)) fun μ1 ⟨a1, a2⟩ => ?_
  have e58 := a1 58 (by omega)
  refine wp_bdQ (rd22 (b := b) (F := F) hw hp (wnum w) 0 zFU μ1 (by omega) (by unfold zFU; omega) ?_ ?_ h1 ?_ (fun i hi => ?_)) fun r ⟨μ', hr, o2, o3, o4⟩ => ?_
  · unfold TX at hX ⊢
    rw [e58, a1 2 (by omega)]
    exact hX
  · show FF F μ1
    unfold FF at hF ⊢
    rw [e58]
    exact hF
  · show TC b n (tB b n p) μ1
    unfold TC at hT ⊢
    rw [e58]
    exact hT
  · rw [if_neg (by omega)]
    exact a2 i hi
  · have o5 : FD μ μ' := FD.tr (fun o _ h => a1 o h) o4
    rcases hr with rfl | rfl
    · exact wp_suml (wp_some ⟨o2, o3, o5⟩)
    · exact wp_sumr (wp_some ⟨o2, o3, o5⟩)
theorem orbit : ∀ t, t < 8 → ∀ s, s < 256 → (nI s ||| nI (2 ^ t)) = nI (s ||| 2 ^ t) ∧ s ||| 2 ^ t < 256 := fun t ht s hs => ⟨nI_or _ _, Nat.or_lt_two_pow (n := 8) hs (Nat.pow_lt_pow_right (by omega) ht)⟩
theorem fg_C : ∀ j m c (s : (Nat × Nat) × Nat) st (μ : zM), n - s.2 ≤ j → j < m → c ≤ s.2 → s.2 ≤ n → s.1.1 ≠ 1 → TX b n μ → FF s.1 μ → TC b n s.2 μ → st < 256 →
    wp (f_X5_readFurtherGraves_L31 58 m (nI st) (nI c) μ) (fun r => r.1 = nI (fgS b n j (s, st)).2 ∧ (fgS b n j (s, st)).2 < 256 ∧ CS b n (fgS b n j (s, st)).1 r.2 ∧ (fgS b n j (s, st)).1.1.1 ≠ 1 ∧ ∀ o, o ≠ 58 → r.2 o = μ o) := by
  intro j
  induction j with
  | zero =>
    intro m c s st μ hj hm hc hs h1 hX hF hT hst
    obtain ⟨m, rfl⟩ : ∃ m', m = m' + 1 := ⟨m - 1, by omega⟩
    have hfg := tF_ge (b := b) (n := n) (p := s.2)
    have h0 : tK b n s.2 = 0 := tK_0.mpr (by omega)
    rw [f_X5_readFurtherGraves_L31]
    refine wp_ie (fun z => ?_) (wp_some ⟨rfl, hst, ⟨hX, hF, hs, fun _ => hT⟩, h1, fun _ _ => rfl⟩)
    have := z.2
    rw [hT.1, h0] at this
    exact absurd this (by decide)
  | succ j ih =>
    intro m c s st μ hj hm hc hs h1 hX hF hT hst
    obtain ⟨m, rfl⟩ : ∃ m', m = m' + 1 := ⟨m - 1, by omega⟩
    have hn := hX.1.1
    have hb := hX.1.2
    have hfl := tF_le (b := b) hs
    rw [f_X5_readFurtherGraves_L31]
    by_cases hk2 : tK b n s.2 = 2
    · have h9 : μ 58 9 = nI (tN b n s.2) := hT.2.2.2 hk2
      have hlt := tN_lt (n := n) (p := s.2) hb
      have hfw := tK_fwd (b := b) (n := n) (p := s.2) (by omega)
      have hcond : (¬ f_X10_allows 23 (0 : Int32) (nI (tN b n s.2)) = 0 ∧ ¬ (nI st >>> (nI (tN b n s.2) &&& 31)) &&& 1 = 1) ↔ fok b n s.2 st = true := by
        have ha : f_X10_allows 23 (0 : Int32) (nI (tN b n s.2)) = b2i (inb 23 0 (tN b n s.2)) := allowsC (w := 23) (k := 0) (by omega) (by decide) hlt
        have hi : inb 23 0 (tN b n s.2) = true ↔ tN b n s.2 ≤ 7 := by
          unfold inb
          rw [decide_eq_true_eq, show bd 23 0 = 7 from rfl]
          omega
        rw [ha, b2i_ne, Bool.not_eq_false, hi]
        unfold fok
        rw [decide_eq_true_eq]
        refine and_congr_right fun h7 => ?_
        rw [bitI_1 (by omega) (by omega), Bool.not_eq_true]
      rw [show fgS b n (j + 1) (s, st) = fgS b n j ((if fok b n s.2 st = true then s.1 else nt s.1 2 (tF b n s.2), tB b n s.2), if fok b n s.2 st = true then st ||| 2 ^ tN b n s.2 else st) from if_pos ⟨h1, hk2⟩]
      refine wp_it ⟨by rw [hX.2.2.1]; exact nI_nlt (by omega) (by omega), by rw [hT.1, hk2]; rfl⟩ (wp_l2 fun x18 μ4 h4 => ?_)
      rw [h9, hT.2.1] at h4
      have hh : x18 = nI (if fok b n s.2 st = true then st ||| 2 ^ tN b n s.2 else st) ∧ (if fok b n s.2 st = true then st ||| 2 ^ tN b n s.2 else st) < 256 ∧ FF (if fok b n s.2 st = true then s.1 else nt s.1 2 (tF b n s.2)) μ4 ∧ FN μ μ4 := by
        by_cases c : fok b n s.2 st = true
        · have ht : tN b n s.2 < 8 := by
            have := of_decide_eq_true c
            omega
          rw [if_pos (hcond.mpr c)] at h4
          rw [if_pos c, if_pos c]
          have h4 : (x18, μ4) = (nI st ||| (1 : Int32) <<< (nI (tN b n s.2) &&& 31), μ) := h4
          rw [one_shl (by omega), (orbit _ ht st hst).1] at h4
          cases h4
          exact ⟨rfl, (orbit _ ht st hst).2, hF, fun _ _ => rfl, fun _ _ _ => rfl⟩
        · rw [if_neg (fun z => c (hcond.mp z))] at h4
          rw [if_neg c, if_neg c]
          have h4 : (x18, μ4) = (nI st, f_X5_note 58 2 (nI (tF b n s.2)) μ) := h4
          cases h4
          exact ⟨rfl, hst, noteC hF h1 (by omega) (by omega) rfl rfl⟩
      obtain ⟨k1, k2, k3, k4⟩ := hh
      refine wp_bdQ (tlookC (p := tB b n s.2) (hX.fn k4) (hT.fn k4).2.2.1 (tB_le hs)) fun μ6 ⟨t6, f6⟩ => wp_ls ?_
      rw [nI_1, k1]
      obtain ⟨r, er, o1, o2, o3, o4, o5⟩ := ih m (c + 1) (if fok b n s.2 st = true then s.1 else nt s.1 2 (tF b n s.2), tB b n s.2) (if fok b n s.2 st = true then st ||| 2 ^ tN b n s.2 else st) μ6 (by show n - tB b n s.2 ≤ j; omega) (by omega) (by show c + 1 ≤ tB b n s.2; omega) (tB_le hs) (by
        show (if fok b n s.2 st = true then s.1 else nt s.1 2 (tF b n s.2)).1 ≠ 1
        split
        · exact h1
        · exact nt_ne1 h1 (by omega)) ((hX.fn k4).fc f6) (k3.fc f6) t6 k2
      exact ⟨r, er, o1, o2, o3, o4, fun o ho => ((o5 o ho).trans (f6.1 o ho)).trans (k4.1 o ho)⟩
    · rw [show fgS b n (j + 1) (s, st) = (s, st) from if_neg (fun z => hk2 z.2)]
      refine wp_ie (fun z => ?_) (wp_some ⟨rfl, hst, ⟨hX, hF, hs, fun _ => hT⟩, h1, fun _ _ => rfl⟩)
      have := z.2
      rw [hT.1] at this
      exact hk2 ((nI_eq (b := 2) (by have := tK_le (b := b) (n := n) (p := s.2); omega) (by omega)).mp this)
end CLASSNUM
