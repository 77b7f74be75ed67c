/-! ===== the start by evaluation: a machine on lists, whose state stands for one of the small machine ===== -/
/-- how many of a kind; which references of new cells are set; cells, slots; what is not 0 -/
abbrev zS : Type := List Int × List (Nat × Int × List Int) × Nat × Nat × List (Nat × Int × Int × Int)
abbrev zO : Type := (Nat × List qV × List qV × zS) ⊕ (qR × zS)
abbrev zCl : Type := Nat → List qV → zS → Option (qR × zS)
def zPd : List (Nat × Int × List Int) → Nat → Int → Option (List Int)
  | [], _, _ => none
  | (k', n', l) :: r, k, n => bif Nat.beq k' k && decide (n' = n) then some l else zPd r k n
def zMm : List (Nat × Int × Int × Int) → Nat → Int → Int → Int
  | [], _, _, _ => 0
  | (a, b, c, v) :: r, k, n, s => bif Nat.beq a k && (decide (b = n) && decide (c = s)) then v else zMm r k n s
def zMem (x : Int) : List Int → Bool
  | [] => false
  | y :: r => bif decide (y = x) then true else zMem x r
def zCn (z : zS) (k : Nat) : Int := z.1.getD k 0
def zHas (z : zS) (k : Nat) (n s : Int) : Bool := match zPd z.2.1 k n with
  | none => true
  | some l => zMem s l
def zSet : List Int → Nat → Int → List Int
  | [], _, _ => []
  | _ :: l, 0, v => v :: l
  | x :: l, k + 1, v => x :: zSet l k v
def zNew (z : zS) (k w : Nat) : zS := (zSet z.1 k (zCn z k + 1), (k, zCn z k, []) :: z.2.1, z.2.2.1 + 1, z.2.2.2.1 + w, z.2.2.2.2)
def zNews (z : zS) (k w : Nat) : Nat → zS
  | 0 => z
  | n + 1 => zNew (zNews z k w n) k w
def zSetR (z : zS) (k : Nat) (n s : Int) : zS := match zPd z.2.1 k n with
  | none => z
  | some l => (z.1, (k, n, s :: l) :: z.2.1, z.2.2)
def zSetRs (z : zS) (k : Nat) (n : Int) : Nat → zS
  | 0 => z
  | j + 1 => zSetR (zSetRs z k n j) k n j
def zSetI (z : zS) (k : Nat) (n s x : Int) : Option zS :=
  bif decide (n < zCn z k) then (bif decide (x = 0) && decide (zMm z.2.2.2.2 k n s = 0) then some z else some (z.1, z.2.1, z.2.2.1, z.2.2.2.1, (k, n, s, x) :: z.2.2.2.2)) else none
/-- the state stands for it -/
def zR (z : zS) (σ : qS) : Prop := (∀ k, σ.1.1 k = zCn z k) ∧ (∀ k n s, zHas z k n s = true → σ.1.2.1 k n s = true) ∧ (σ.1.2.2.1 = z.2.2.1 ∧ σ.1.2.2.2.1 = z.2.2.2.1) ∧ (∀ k n s, σ.2 k n s = zMm z.2.2.2.2 k n s) ∧ ∀ e ∈ z.2.2.2.2, e.2.1 < zCn z e.1
theorem zSet_at {v : Int} : ∀ {l : List Int} {k : Nat}, k < l.length → ∀ a, (zSet l k v).getD a 0 = if a = k then v else l.getD a 0
  | [], _, h, _ => absurd h (Nat.not_lt_zero _)
  | _ :: l, 0, _, 0 => rfl
  | _ :: l, 0, _, a + 1 => rfl
  | x :: l, k + 1, _, 0 => rfl
  | x :: l, k + 1, h, a + 1 => by
    have := zSet_at (v := v) (l := l) (k := k) (Nat.lt_of_succ_lt_succ h) a
    show (zSet l k v).getD a 0 = if a + 1 = k + 1 then v else l.getD a 0
    rw [this]
    by_cases e : a = k
    · rw [if_pos e, if_pos (by omega)]
    · rw [if_neg e, if_neg (by omega)]
theorem zMm_0 {cn : Nat → Int} : ∀ {l : List (Nat × Int × Int × Int)}, (∀ e ∈ l, e.2.1 < cn e.1) → ∀ {k : Nat} {n s : Int}, cn k ≤ n → zMm l k n s = 0
  | [], _, _, _, _, _ => rfl
  | (a, b, c, v) :: r, h, k, n, s, hn => by
    have h1 := h (a, b, c, v) List.mem_cons_self
    have ih := zMm_0 (l := r) (fun e he => h e (List.mem_cons_of_mem _ he)) (s := s) hn
    unfold zMm
    cases hb : (Nat.beq a k && (decide (b = n) && decide (c = s))) with
    | false => exact ih
    | true =>
      simp only [Bool.and_eq_true, decide_eq_true_eq] at hb
      have e := Nat.eq_of_beq_eq_true hb.1
      subst e
      have h1' : b < cn a := h1
      omega
theorem zNew_R {z : zS} {σ : qS} {k w : Nat} (h : zR z σ) (hk : k < z.1.length) : zR (zNew z k w) (qNew σ k w) := by
  obtain ⟨h1, h2, ⟨h3, h4⟩, h5, h6⟩ := h
  have cn : ∀ a, zCn (zNew z k w) a = if a = k then zCn z k + 1 else zCn z a := fun a => zSet_at hk a
  refine ⟨fun a => ?_, fun a b s hh => ?_, ⟨?_, ?_⟩, fun a b s => ?_, fun e he => ?_⟩
  · rw [cn]
    show qUN σ.1.1 k (σ.1.1 k + 1) a = _
    unfold qUN
    rw [h1 k]
    split
    · rfl
    · exact h1 a
  · show (if a = k ∧ b = σ.1.1 k then false else σ.1.2.1 a b s) = true
    rw [h1 k]
    have hh' : (match (bif Nat.beq k a && decide (zCn z k = b) then some [] else zPd z.2.1 a b) with
      | none => true
      | some l => zMem s l) = true := hh
    by_cases e : a = k ∧ b = zCn z k
    · exfalso
      have e2 : (Nat.beq k a && decide (zCn z k = b)) = true := by
        rw [e.1, Nat.beq_refl, decide_eq_true e.2.symm]; rfl
      rw [e2] at hh'
      cases hh'
    · rw [if_neg e]
      have e2 : (Nat.beq k a && decide (zCn z k = b)) = false := by
        cases hb : (Nat.beq k a && decide (zCn z k = b)) with
        | false => rfl
        | true =>
          simp only [Bool.and_eq_true, decide_eq_true_eq] at hb
          exact absurd ⟨(Nat.eq_of_beq_eq_true hb.1).symm, hb.2.symm⟩ e
      rw [e2] at hh'
      exact h2 a b s hh'
  · show σ.1.2.2.1 + 1 = z.2.2.1 + 1
    rw [h3]
  · show σ.1.2.2.2.1 + w = z.2.2.2.1 + w
    rw [h4]
  · show (if a = k ∧ b = σ.1.1 k then 0 else σ.2 a b s) = zMm z.2.2.2.2 a b s
    by_cases e : a = k ∧ b = σ.1.1 k
    · rw [if_pos e]
      refine (zMm_0 (cn := zCn z) h6 ?_).symm
      rw [e.1, e.2, h1 k]
      exact Int.le_refl _
    · rw [if_neg e]; exact h5 a b s
  · have := h6 e he
    rw [cn]
    split
    · rename_i q; rw [q] at this; omega
    · exact this
theorem zNew_len {z : zS} {k w : Nat} : (zNew z k w).1.length = z.1.length := by
  have : ∀ (l : List Int) (k : Nat) (v : Int), (zSet l k v).length = l.length := fun l => by
    induction l with
    | nil => intro k v; rfl
    | cons x l ih =>
      intro k v
      cases k with
      | zero => rfl
      | succ k => show (zSet l k v).length + 1 = l.length + 1; rw [ih]
  exact this _ _ _
theorem zNews_R {z : zS} {σ : qS} {k w : Nat} (h : zR z σ) (hk : k < z.1.length) : ∀ {n : Nat}, zR (zNews z k w n) (qNews σ k w n) ∧ (zNews z k w n).1.length = z.1.length
  | 0 => ⟨h, rfl⟩
  | n + 1 => by
    have ih := zNews_R (w := w) h hk (n := n)
    exact ⟨zNew_R ih.1 (by rw [ih.2]; exact hk), by show (zNew (zNews z k w n) k w).1.length = _; rw [zNew_len]; exact ih.2⟩
theorem zSetR_R {z : zS} {σ : qS} {k : Nat} {n s : Int} (h : zR z σ) : zR (zSetR z k n s) (qSetR σ k n s) := by
  obtain ⟨h1, h2, h3, h5, h6⟩ := h
  have mono : ∀ a b c, σ.1.2.1 a b c = true → qUB σ.1.2.1 k n s a b c = true := fun a b c hh => by
    unfold qUB
    split
    · rfl
    · exact hh
  unfold zSetR
  cases hp : zPd z.2.1 k n with
  | none => exact ⟨h1, fun a b c hh => mono a b c (h2 a b c hh), h3, h5, h6⟩
  | some l =>
    refine ⟨h1, fun a b c hh => ?_, h3, h5, h6⟩
    have hh' : (match (bif Nat.beq k a && decide (n = b) then some (s :: l) else zPd z.2.1 a b) with
      | none => true
      | some l => zMem c l) = true := hh
    by_cases e : a = k ∧ b = n
    · obtain ⟨e1, e2⟩ := e
      subst e1; subst e2
      rw [Nat.beq_refl, decide_eq_true rfl] at hh'
      have hh2 : (bif decide (s = c) then true else zMem c l) = true := hh'
      by_cases e3 : s = c
      · subst e3
        show qUB σ.1.2.1 a b s a b s = true
        unfold qUB
        rw [if_pos ⟨rfl, rfl, rfl⟩]
      · rw [decide_eq_false e3] at hh2
        refine mono a b c (h2 a b c ?_)
        unfold zHas
        rw [hp]
        exact hh2
    · have e2 : (Nat.beq k a && decide (n = b)) = false := by
        cases hb : (Nat.beq k a && decide (n = b)) with
        | false => rfl
        | true =>
          simp only [Bool.and_eq_true, decide_eq_true_eq] at hb
          exact absurd ⟨(Nat.eq_of_beq_eq_true hb.1).symm, hb.2.symm⟩ e
      rw [e2] at hh'
      exact mono a b c (h2 a b c hh')
theorem zSetRs_R {z : zS} {σ : qS} {k : Nat} {n : Int} (h : zR z σ) : ∀ {j : Nat}, zR (zSetRs z k n j) (qSetRs σ k n j)
  | 0 => h
  | j + 1 => zSetR_R (zSetRs_R h)
theorem zSetI_R {z z' : zS} {σ : qS} {k : Nat} {n s x : Int} (h : zR z σ) (hz : zSetI z k n s x = some z') : zR z' (qSetI σ k n s x) := by
  obtain ⟨h1, h2, h3, h5, h6⟩ := h
  unfold zSetI at hz
  by_cases q : n < zCn z k
  · rw [decide_eq_true q] at hz
    simp only [cond_true] at hz
    cases hb : (decide (x = 0) && decide (zMm z.2.2.2.2 k n s = 0)) with
    | true =>
      rw [hb] at hz
      cases hz
      simp only [Bool.and_eq_true, decide_eq_true_eq] at hb
      refine ⟨h1, h2, h3, fun a b c => ?_, h6⟩
      show qU σ.2 k n s x a b c = _
      unfold qU
      split
      · rename_i e; rw [e.1, e.2.1, e.2.2, hb.1, hb.2]
      · exact h5 a b c
    | false =>
      rw [hb] at hz
      cases hz
      refine ⟨h1, h2, h3, fun a b c => ?_, fun e he => ?_⟩
      · show qU σ.2 k n s x a b c = (bif Nat.beq k a && (decide (n = b) && decide (s = c)) then x else zMm z.2.2.2.2 a b c)
        unfold qU
        by_cases e : a = k ∧ b = n ∧ c = s
        · rw [if_pos e, e.1, e.2.1, e.2.2, Nat.beq_refl, decide_eq_true rfl, decide_eq_true rfl]; rfl
        · rw [if_neg e]
          have e2 : (Nat.beq k a && (decide (n = b) && decide (s = c))) = false := by
            cases hb : (Nat.beq k a && (decide (n = b) && decide (s = c))) with
            | false => rfl
            | true =>
              simp only [Bool.and_eq_true, decide_eq_true_eq] at hb
              exact absurd ⟨(Nat.eq_of_beq_eq_true hb.1).symm, hb.2.1.symm, hb.2.2.symm⟩ e
          rw [e2]
          exact h5 a b c
      · rcases List.mem_cons.mp he with rfl | he
        · exact q
        · exact h6 e he
  · rw [decide_eq_false q] at hz
    cases hz
