/-! ===== the rows of a chapter, as they are: A 0 head, 1 need, 2 lines, 3 ends of lines, 4 kinds, 5 values, 6 words ===== -/
abbrev pA : Type := Nat → Int → Int → Int
def p_sumN (g : Int → Int) : Nat → Int
  | 0 => 0
  | j + 1 => p_sumN g j + g j
def p_sum (g : Int → Int) (x : Int) : Int := p_sumN g x.toNat
theorem p_sum_0 {g : Int → Int} : p_sum g 0 = 0 := rfl
theorem p_sum_s {g : Int → Int} {x : Int} (h : 0 ≤ x) : p_sum g (x + 1) = p_sum g x + g x := by
  unfold p_sum
  rw [show (x + 1).toNat = x.toNat + 1 by omega]
  show p_sumN g x.toNat + g (x.toNat : Int) = _
  rw [show (x.toNat : Int) = x by omega]
theorem p_sum_mono {g : Int → Int} {a b : Int} (hg : ∀ x, a ≤ x → x < b → 0 ≤ g x) (ha : 0 ≤ a) (hab : a ≤ b) : p_sum g a ≤ p_sum g b := by
  refine q_upto (P := fun x => 0 ≤ x → a ≤ x → p_sum g x ≤ p_sum g b) hab (fun _ _ => Int.le_refl _) (fun x h1 h2 h3 h4 _ => ?_) ha (Int.le_refl _)
  have := p_sum_s (g := g) h4
  have := hg x h1 h2
  have := h3 (by omega) (by omega)
  omega
theorem p_sum_lt {g : Int → Int} {a b : Int} (hg : ∀ x, a ≤ x → x < b → 0 ≤ g x) (ha : 0 ≤ a) (hab : a < b) : p_sum g a + g a ≤ p_sum g b := by
  have h1 := p_sum_s (g := g) ha
  have h2 := p_sum_mono (g := g) (a := a + 1) (b := b) (fun x h1 h2 => hg x (by omega) h2) (by omega) (by omega)
  omega
def p_PF (A : pA) (i w : Int) : Int := p_sum (fun x => if A 4 i x = 3 then 1 else 0) w
def p_PN (A : pA) (i w : Int) : Int := p_sum (fun x => if A 4 i x = 2 then A 5 i x else 0) w
def p_SF (A : pA) (i : Int) : Int := p_sum (fun x => p_PF A x (A 6 x 0)) i
def p_SN (A : pA) (i : Int) : Int := p_sum (fun x => p_PN A x (A 6 x 0)) i
/-- how many floats, lines of notes are ahead of a word -/
def p_FB (A : pA) (i w : Int) : Int := p_SF A i + p_PF A i w
def p_NB (A : pA) (i w : Int) : Int := p_SN A i + p_PN A i w
def p_LSN (k nb : Int → Int) (b0 : Int) : Nat → Int
  | 0 => b0
  | t + 1 => if k t = 2 then nb t + 1 else p_LSN k nb b0 t
def p_LSI (A : pA) : Nat → Int
  | 0 => 0
  | i + 1 => p_LSN (A 4 i) (p_NB A i) (p_LSI A i) (A 6 i 0).toNat
/-- so many lines must be shown, by the notes ahead of a word -/
def p_LS (A : pA) (i w : Int) : Int := p_LSN (A 4 i) (p_NB A i) (p_LSI A i.toNat) w.toNat
theorem p_LS_s {A : pA} {i w : Int} (h : 0 ≤ w) : p_LS A i (w + 1) = if A 4 i w = 2 then p_NB A i w + 1 else p_LS A i w := by
  unfold p_LS
  rw [show (w + 1).toNat = w.toNat + 1 by omega]
  show (if A 4 i (w.toNat : Int) = 2 then p_NB A i (w.toNat : Int) + 1 else _) = _
  rw [show (w.toNat : Int) = w by omega]
theorem p_LS_i {A : pA} {i : Int} (h : 0 ≤ i) : p_LS A (i + 1) 0 = p_LS A i (A 6 i 0) := by
  unfold p_LS
  rw [show (i + 1).toNat = i.toNat + 1 by omega]
  show p_LSN (A 4 (i.toNat : Int)) (p_NB A (i.toNat : Int)) (p_LSI A i.toNat) (A 6 (i.toNat : Int) 0).toNat = _
  rw [show (i.toNat : Int) = i by omega]
theorem p_FB_s {A : pA} {i w : Int} (h : 0 ≤ w) : p_FB A i (w + 1) = p_FB A i w + (if A 4 i w = 3 then 1 else 0) := by
  unfold p_FB p_PF; rw [p_sum_s h]; omega
theorem p_NB_s {A : pA} {i w : Int} (h : 0 ≤ w) : p_NB A i (w + 1) = p_NB A i w + (if A 4 i w = 2 then A 5 i w else 0) := by
  unfold p_NB p_PN; rw [p_sum_s h]; omega
theorem p_FB_i {A : pA} {i : Int} (h : 0 ≤ i) : p_FB A (i + 1) 0 = p_FB A i (A 6 i 0) := by
  unfold p_FB p_SF; rw [p_sum_s h]; show _ + p_sum _ 0 = _; rw [p_sum_0]; omega
theorem p_NB_i {A : pA} {i : Int} (h : 0 ≤ i) : p_NB A (i + 1) 0 = p_NB A i (A 6 i 0) := by
  unfold p_NB p_SN; rw [p_sum_s h]; show _ + p_sum _ 0 = _; rw [p_sum_0]; omega
/-- row by row: its item, its line -/
def p_rc (A : pA) : Nat → Int × Int
  | 0 => (0, 0)
  | r + 1 => if (p_rc A r).2 + 1 < A 2 (p_rc A r).1 0 then ((p_rc A r).1, (p_rc A r).2 + 1) else ((p_rc A r).1 + 1, 0)
def p_ri (A : pA) (r : Int) : Int := (p_rc A r.toNat).1
def p_rl (A : pA) (r : Int) : Int := (p_rc A r.toNat).2
def p_fr (A : pA) (r : Int) : Int := if A 0 (p_ri A r) 0 = 0 then (if p_rl A r = 0 then 0 else A 3 (p_ri A r) (p_rl A r - 1)) else 0
def p_to (A : pA) (r : Int) : Int := if A 0 (p_ri A r) 0 = 0 then A 3 (p_ri A r) (p_rl A r) else 0
def p_nd (A : pA) (r : Int) : Int := if A 0 (p_ri A r) 0 = 0 then 0 else A 1 (p_ri A r) 0
def p_f1 (A : pA) (r : Int) : Int := if A 2 (p_ri A r) 0 ≤ 1 then 0 else if p_rl A r = 0 then 1 else 0
def p_l1 (A : pA) (r : Int) : Int := if A 2 (p_ri A r) 0 ≤ 1 then 0 else if p_rl A r = A 2 (p_ri A r) 0 - 1 then 1 else 0
def p_ib (A : pA) (r : Int) : Int := if p_rl A r = 0 then (if p_ri A r ≤ 0 then 0 else 1) else 0
def p_bl (A : pA) (r : Int) : Int := p_sum (p_ib A) r
def p_fl (A : pA) (r : Int) : Int := if r ≤ 0 then 0 else p_FB A (p_ri A (r - 1)) (p_to A (r - 1))
def p_nl (A : pA) (r : Int) : Int := if r ≤ 0 then 0 else p_NB A (p_ri A (r - 1)) (p_to A (r - 1))
def p_ls (A : pA) (r : Int) : Int := if r ≤ 0 then 0 else p_LS A (p_ri A (r - 1)) (p_to A (r - 1))
/-- how many rows there are ahead of an item -/
def p_SR (A : pA) (i : Int) : Int := p_sum (fun x => A 2 x 0) i
/-- a chapter's items are as they can be -/
def p_okI (A : pA) (i : Int) : Prop := (∀ w, 0 ≤ A 5 i w ∧ A 5 i w ≤ 9) ∧ ((A 0 i 0 = 1 ∧ A 2 i 0 = 1 ∧ A 6 i 0 = 0 ∧ 1 ≤ A 1 i 0 ∧ A 1 i 0 ≤ 3) ∨ (A 0 i 0 = 0 ∧ (1 ≤ A 6 i 0 ∧ A 6 i 0 ≤ 20) ∧ (1 ≤ A 2 i 0 ∧ A 2 i 0 ≤ A 6 i 0) ∧ (∀ s, 0 ≤ s → s < A 2 i 0 → s + 1 ≤ A 3 i s ∧ A 3 i s ≤ A 6 i 0) ∧ (∀ s, 0 ≤ s → s + 1 < A 2 i 0 → A 3 i s < A 3 i (s + 1)) ∧ A 3 i (A 2 i 0 - 1) = A 6 i 0))
def p_okA (A : pA) (cnt : Int) : Prop := (0 ≤ cnt ∧ cnt ≤ 10) ∧ (∀ i, 0 ≤ i → i < cnt → p_okI A i) ∧ p_SF A cnt ≤ 4 ∧ p_SN A cnt ≤ 12 ∧ p_SR A cnt ≤ 70
theorem p_okA_6 {A : pA} {cnt i : Int} (h : p_okA A cnt) (hi : 0 ≤ i ∧ i < cnt) : 0 ≤ A 6 i 0 ∧ A 6 i 0 ≤ 20 ∧ 1 ≤ A 2 i 0 ∧ A 2 i 0 ≤ 20 := by
  rcases (h.2.1 i hi.1 hi.2).2 with k | k <;> omega
theorem p_FB_mono {A : pA} {cnt i w i' w' : Int} (h : p_okA A cnt) (hi : 0 ≤ i' ∧ i ≤ cnt) (hw : 0 ≤ w' ∧ w' < A 6 i' 0) (hw2 : 0 ≤ w ∧ (i < cnt ∨ w = 0)) (hb : i' < i ∨ (i' = i ∧ w' < w)) :
    p_FB A i' w' + (if A 4 i' w' = 3 then 1 else 0) ≤ p_FB A i w ∧ p_NB A i' w' + (if A 4 i' w' = 2 then A 5 i' w' else 0) ≤ p_NB A i w := by
  have pf : ∀ j : Int, ∀ x, 0 ≤ (fun x => if A 4 j x = 3 then (1 : Int) else 0) x := fun j x => by show 0 ≤ (if _ then (1 : Int) else 0); split <;> omega
  have pn : ∀ j : Int, 0 ≤ j → j < cnt → ∀ x, 0 ≤ (fun x => if A 4 j x = 2 then A 5 j x else 0) x := fun j j0 j1 x => by
    show 0 ≤ (if _ then A 5 j x else 0)
    have := (h.2.1 j j0 j1).1 x
    split <;> omega
  rcases hb with hb | ⟨rfl, hb⟩
  · have a1 := p_sum_lt (g := fun x => if A 4 i' x = 3 then (1 : Int) else 0) (a := w') (b := A 6 i' 0) (fun x _ _ => pf i' x) hw.1 hw.2
    have a2 := p_sum_lt (g := fun x => if A 4 i' x = 2 then A 5 i' x else 0) (a := w') (b := A 6 i' 0) (fun x _ _ => pn i' hi.1 (by omega) x) hw.1 hw.2
    have b1 := p_sum_lt (g := fun x => p_PF A x (A 6 x 0)) (a := i') (b := i) (fun x x0 x1 => p_sum_mono (a := 0) (fun y _ _ => pf x y) (Int.le_refl _) (p_okA_6 h ⟨by omega, by omega⟩).1) hi.1 hb
    have b2 := p_sum_lt (g := fun x => p_PN A x (A 6 x 0)) (a := i') (b := i) (fun x x0 x1 => p_sum_mono (a := 0) (fun y _ _ => pn x (by omega) (by omega) y) (Int.le_refl _) (p_okA_6 h ⟨by omega, by omega⟩).1) hi.1 hb
    have c1 : 0 ≤ p_PF A i w := p_sum_mono (a := 0) (fun y _ _ => pf i y) (Int.le_refl _) hw2.1
    have c2 : 0 ≤ p_PN A i w := by
      rcases hw2.2 with hic | hic
      · exact p_sum_mono (a := 0) (fun y _ _ => pn i (by omega) hic y) (Int.le_refl _) hw2.1
      · rw [hic]; exact Int.le_refl _
    have e1 : p_FB A i w = p_sum (fun x => p_PF A x (A 6 x 0)) i + p_PF A i w := rfl
    have e2 : p_NB A i w = p_sum (fun x => p_PN A x (A 6 x 0)) i + p_PN A i w := rfl
    have e3 : p_FB A i' w' = p_sum (fun x => p_PF A x (A 6 x 0)) i' + p_sum (fun x => if A 4 i' x = 3 then (1 : Int) else 0) w' := rfl
    have e4 : p_NB A i' w' = p_sum (fun x => p_PN A x (A 6 x 0)) i' + p_sum (fun x => if A 4 i' x = 2 then A 5 i' x else 0) w' := rfl
    have e5 : p_PF A i' (A 6 i' 0) = p_sum (fun x => if A 4 i' x = 3 then (1 : Int) else 0) (A 6 i' 0) := rfl
    have e6 : p_PN A i' (A 6 i' 0) = p_sum (fun x => if A 4 i' x = 2 then A 5 i' x else 0) (A 6 i' 0) := rfl
    omega
  · have hic : i' < cnt := by omega
    have a1 := p_sum_lt (g := fun x => if A 4 i' x = 3 then (1 : Int) else 0) (a := w') (b := w) (fun x _ _ => pf i' x) hw.1 hb
    have a2 := p_sum_lt (g := fun x => if A 4 i' x = 2 then A 5 i' x else 0) (a := w') (b := w) (fun x _ _ => pn i' hi.1 hic x) hw.1 hb
    have e1 : p_FB A i' w = p_sum (fun x => p_PF A x (A 6 x 0)) i' + p_sum (fun x => if A 4 i' x = 3 then (1 : Int) else 0) w := rfl
    have e2 : p_NB A i' w = p_sum (fun x => p_PN A x (A 6 x 0)) i' + p_sum (fun x => if A 4 i' x = 2 then A 5 i' x else 0) w := rfl
    have e3 : p_FB A i' w' = p_sum (fun x => p_PF A x (A 6 x 0)) i' + p_sum (fun x => if A 4 i' x = 3 then (1 : Int) else 0) w' := rfl
    have e4 : p_NB A i' w' = p_sum (fun x => p_PN A x (A 6 x 0)) i' + p_sum (fun x => if A 4 i' x = 2 then A 5 i' x else 0) w' := rfl
    omega
/-- the end of a chapter's words -/
theorem p_FB_end {A : pA} {cnt i w : Int} (h : p_okA A cnt) (hi : 0 ≤ i ∧ i < cnt) (hw : 0 ≤ w ∧ w ≤ A 6 i 0) : (0 ≤ p_FB A i w ∧ p_FB A i w ≤ 4) ∧ 0 ≤ p_NB A i w ∧ p_NB A i w ≤ 12 := by
  have pf : ∀ j : Int, ∀ x, 0 ≤ (fun x => if A 4 j x = 3 then (1 : Int) else 0) x := fun j x => by show 0 ≤ (if _ then (1 : Int) else 0); split <;> omega
  have pn : ∀ j : Int, 0 ≤ j → j < cnt → ∀ x, 0 ≤ (fun x => if A 4 j x = 2 then A 5 j x else 0) x := fun j j0 j1 x => by
    show 0 ≤ (if _ then A 5 j x else 0)
    have := (h.2.1 j j0 j1).1 x
    split <;> omega
  have q1 : ∀ x, 0 ≤ x → x < cnt → 0 ≤ p_PF A x (A 6 x 0) := fun x x0 x1 => p_sum_mono (a := 0) (fun y _ _ => pf x y) (Int.le_refl _) (p_okA_6 h ⟨x0, x1⟩).1
  have q2 : ∀ x, 0 ≤ x → x < cnt → 0 ≤ p_PN A x (A 6 x 0) := fun x x0 x1 => p_sum_mono (a := 0) (fun y _ _ => pn x x0 x1 y) (Int.le_refl _) (p_okA_6 h ⟨x0, x1⟩).1
  have a1 : p_PF A i w ≤ p_PF A i (A 6 i 0) := p_sum_mono (fun y _ _ => pf i y) hw.1 hw.2
  have a2 : p_PN A i w ≤ p_PN A i (A 6 i 0) := p_sum_mono (fun y _ _ => pn i hi.1 hi.2 y) hw.1 hw.2
  have a3 : 0 ≤ p_PF A i w := p_sum_mono (a := 0) (fun y _ _ => pf i y) (Int.le_refl _) hw.1
  have a4 : 0 ≤ p_PN A i w := p_sum_mono (a := 0) (fun y _ _ => pn i hi.1 hi.2 y) (Int.le_refl _) hw.1
  have b1 := p_sum_lt (g := fun x => p_PF A x (A 6 x 0)) (a := i) (b := cnt) (fun x x0 x1 => q1 x (by omega) x1) hi.1 hi.2
  have b2 := p_sum_lt (g := fun x => p_PN A x (A 6 x 0)) (a := i) (b := cnt) (fun x x0 x1 => q2 x (by omega) x1) hi.1 hi.2
  have c1 : 0 ≤ p_SF A i := p_sum_mono (g := fun x => p_PF A x (A 6 x 0)) (a := 0) (fun x x0 x1 => q1 x x0 (by omega)) (Int.le_refl _) hi.1
  have c2 : 0 ≤ p_SN A i := p_sum_mono (g := fun x => p_PN A x (A 6 x 0)) (a := 0) (fun x x0 x1 => q2 x x0 (by omega)) (Int.le_refl _) hi.1
  have d1 := h.2.2.1
  have d2 := h.2.2.2.1
  unfold p_FB p_NB
  unfold p_SF p_SN at *
  omega
/-- where the rows are: from item and line -/
theorem p_rc_at {A : pA} {cnt : Int} (h : p_okA A cnt) : ∀ i s : Int, 0 ≤ i → i < cnt → 0 ≤ s → s < A 2 i 0 → p_rc A (p_SR A i + s).toNat = (i, s) ∧ 0 ≤ p_SR A i := by
  intro i s i0 i1 s0 s1
  have main : ∀ n : Nat, ∀ s : Int, (n : Int) < cnt → 0 ≤ s → s < A 2 n 0 → p_rc A (p_SR A n + s).toNat = ((n : Int), s) ∧ 0 ≤ p_SR A n := by
    intro n
    induction n with
    | zero =>
      intro s hn s0 s1
      have hin : ∀ t : Nat, (t : Int) < A 2 0 0 → p_rc A t = (0, (t : Int)) := by
        intro t
        induction t with
        | zero => intro _; rfl
        | succ t ih =>
          intro ht
          show (if _ then _ else _) = _
          rw [ih (by omega)]
          rw [if_pos (by show (t : Int) + 1 < A 2 0 0; omega)]
          simp
      refine ⟨?_, Int.le_refl _⟩
      rw [show p_SR A ((0 : Nat) : Int) + s = s by show p_sum _ 0 + s = s; rw [p_sum_0]; omega]
      have s2 : s < A 2 0 0 := s1
      have := hin s.toNat (by omega)
      rw [this]
      simp
      omega
    | succ n ih =>
      intro s hn s0 s1
      have l1 := p_okA_6 h (i := (n : Int)) ⟨by omega, by omega⟩
      obtain ⟨g1, g2⟩ := ih (A 2 n 0 - 1) (by omega) (by omega) (by omega)
      have g3 : p_SR A ((n + 1 : Nat) : Int) = p_SR A n + A 2 n 0 := by
        unfold p_SR
        rw [show ((n + 1 : Nat) : Int) = (n : Int) + 1 by omega, p_sum_s (by omega)]
      have base : p_rc A (p_SR A ((n + 1 : Nat) : Int)).toNat = (((n + 1 : Nat) : Int), 0) := by
        rw [g3, show (p_SR A n + A 2 n 0).toNat = (p_SR A n + (A 2 n 0 - 1)).toNat + 1 by omega]
        show (if _ then _ else _) = _
        rw [g1, if_neg (by show ¬ (A 2 n 0 - 1 + 1 < A 2 n 0); omega)]
        simp
      have hin : ∀ t : Nat, (t : Int) < A 2 ((n + 1 : Nat) : Int) 0 → p_rc A ((p_SR A ((n + 1 : Nat) : Int)).toNat + t) = (((n + 1 : Nat) : Int), (t : Int)) := by
        intro t
        induction t with
        | zero => intro _; exact base
        | succ t ih =>
          intro ht
          rw [show (p_SR A ((n + 1 : Nat) : Int)).toNat + (t + 1) = ((p_SR A ((n + 1 : Nat) : Int)).toNat + t) + 1 by omega]
          show (if _ then _ else _) = _
          rw [ih (by omega), if_pos (by show (t : Int) + 1 < A 2 ((n + 1 : Nat) : Int) 0; omega)]
          simp
      refine ⟨?_, by omega⟩
      have := hin s.toNat (by omega)
      rw [show (p_SR A ((n + 1 : Nat) : Int) + s).toNat = (p_SR A ((n + 1 : Nat) : Int)).toNat + s.toNat by omega, this]
      simp
      omega
  have := main i.toNat s (by omega) s0 (by rw [show ((i.toNat : Nat) : Int) = i by omega]; exact s1)
  rw [show ((i.toNat : Nat) : Int) = i by omega] at this
  exact this
