/-! ===== Item.isBroken, Breaker.writeLines, Breaker.renew ===== -/
/-- the widths by which it was broken last are those of now -/
def p_kept (M : qM) (it W : Int) : Prop := M 5 it 8 = W ∧ ∀ j, 0 ≤ j → j < M 5 it 2 → M 36 it j = M 32 it j + M 35 it j
theorem t50 {d : Nat} {h : qH} (hS : qSe h) {it W : Int} {M : qM} {f : Int → qM → Prop} (hn : 0 ≤ M 5 it 2 ∧ M 5 it 2 ≤ 20)
    (hw : ∀ i, 0 ≤ M 32 it i + M 35 it i ∧ M 32 it i + M 35 it i ≤ 16)
    (H1 : p_kept M it W → f 1 M) (H0 : ¬ p_kept M it W → f 0 M) : e50 (d + 2) h it W M f := by
  refine w50 hS ⟨fun h0 => ?_, fun h0 => H0 (fun q => h0 q.1)⟩
  refine q_upto (P := fun j => (∀ i, 0 ≤ i → i < j → M 36 it i = M 32 it i + M 35 it i) → b50_12 d h f it (.inl W) j M) (a := 0) (b := M 5 it 2) hn.1 ?_ ?_ (fun i _ _ => by omega)
  · intro hi
    exact w50_12 hS ⟨fun h1 => by omega, fun _ => H1 ⟨h0, hi⟩⟩
  · intro j h1 h2 ih hi
    have := hw j
    refine w50_12 hS ⟨fun h3 => ⟨⟨by omega, by omega⟩, t47 hS ⟨by omega, by omega⟩ ⟨by omega, by omega⟩ ⟨fun h4 => ⟨⟨by omega, by omega⟩, ih (fun i i1 i2 => ?_)⟩, fun h4 => H0 (fun q => h4 (q.2 j h1 h2))⟩⟩, fun h3 => by omega⟩
    by_cases hij : i = j
    · rw [hij]; exact h4
    · exact hi i i1 (by omega)
def p_tab (w C L E : Int → Int) (n W : Int) : Prop := C n = 0 ∧ L n = 0 ∧ ∀ j, 0 ≤ j → j < n → p_best w C L n W j (n + 1) (C j) (L j) (E j)
def p_end (E : Int → Int) : Nat → Int
  | 0 => 0
  | s + 1 => E (p_end E s)
def p_lns (E : Int → Int) (n lc : Int) (le : Int → Int) : Prop := (0 ≤ lc ∧ lc ≤ n) ∧ p_end E lc.toNat = n ∧ (∀ s : Nat, (s : Int) < lc → p_end E s < n) ∧ ∀ s : Nat, (s : Int) < lc → le s = p_end E (s + 1)
theorem p_end_lt {w C L E : Int → Int} {n W : Int} (hE : ∀ j, 0 ≤ j → j < n → p_best w C L n W j (n + 1) (C j) (L j) (E j)) : ∀ s : Nat, (∀ t : Nat, t < s → p_end E t < n) → (s : Int) ≤ p_end E s ∧ p_end E s ≤ max n 0
  | 0, _ => ⟨Int.le_refl _, by show (0 : Int) ≤ _; omega⟩
  | s + 1, h => by
    have h1 := p_end_lt hE s (fun t ht => h t (by omega))
    have h2 := h s (by omega)
    have h3 := (hE (p_end E s) (by omega) h2).1
    show ((s + 1 : Nat) : Int) ≤ E (p_end E s) ∧ E (p_end E s) ≤ _
    omega
/-- the lines of an item, as they were found -/
def fr4 (it : Int) (M M' : qM) : Prop := ∀ (k : Nat) (n s : Int), ¬ ((k = 5 ∧ n = it ∧ (s = 10 ∨ s = 11)) ∨ (k = 37 ∧ n = it)) → M' k n s = M k n s
theorem t4 {d : Nat} {h : qH} (hS : qSe h) {it n W : Int} {w C L : Int → Int} {M : qM} {f : qM → Prop} (hn : M 5 it 2 = n) (hn2 : 0 ≤ n ∧ n ≤ 20)
    (hE : ∀ j, 0 ≤ j → j < n → p_best w C L n W j (n + 1) (C j) (L j) (M 14 0 j))
    (H : ∀ M', fr4 it M M' → M' 5 it 11 = M 12 0 0 → p_lns (M 14 0) n (M' 5 it 10) (M' 37 it) → f M') : e4 (d + 1) h it M f := by
  refine w4 hS (fun M1 e1 M2 e2 => ?_)
  have main : ∀ (t s : Nat) (M3 : qM), s + t = 21 → fr4 it M M3 → M3 5 it 11 = M 12 0 0 → M3 5 it 10 = s → (∀ u : Nat, u < s → p_end (M 14 0) u < n ∧ M3 37 it u = p_end (M 14 0) (u + 1)) → b4_17 d h f it (p_end (M 14 0) s) M3 := by
    intro t
    induction t with
    | zero =>
      intro s M3 hst _ _ _ hu
      exfalso
      have h1 := p_end_lt hE 20 (fun u hu' => (hu u (by omega)).1)
      have h2 := (hu 20 (by omega)).1
      omega
    | succ t ih =>
      intro s M3 hst h0 h1 h2 hu
      have g1 : M3 5 it 2 = n := by rw [← hn]; exact h0 _ _ _ (by omega)
      have g2 := p_end_lt hE s (fun u hu' => (hu u hu').1)
      have g3 : ∀ x, M3 14 0 x = M 14 0 x := fun x => h0 _ _ _ (by omega)
      refine w4_17 hS ⟨fun h3 => ⟨fun h4 => ⟨⟨by omega, by omega⟩, ⟨by omega, by omega⟩, fun M4 e4 => ?_⟩, fun h4 => by omega⟩, fun h3 => ?_⟩
      · have k1 : M4 5 it 10 = s := by rw [e4, qU_k (by decide)]; exact h2
        refine ⟨⟨by omega, by omega⟩, fun M5 e5 => ?_⟩
        rw [g3]
        refine ih (s + 1) M5 (by omega) ?_ ?_ ?_ ?_
        · intro k n' s' hk
          rw [← h0 k n' s' hk, e5, e4]
          unfold qU
          grind
        · rw [e5, e4, qU_l (by decide), qU_k (by decide)]; exact h1
        · rw [e5, qU_s, k1]; omega
        · intro u hu'
          by_cases hus : u = s
          · subst hus
            refine ⟨by omega, ?_⟩
            rw [e5, qU_k (by decide), e4, h2, qU_s, g3]
            rfl
          · have := hu u (by omega)
            refine ⟨this.1, ?_⟩
            rw [e5, qU_k (by decide), e4, h2, qU_l (by omega)]
            exact this.2
      · refine H M3 h0 h1 ⟨⟨by omega, by omega⟩, ?_, ?_, ?_⟩
        · rw [h2, show ((s : Int)).toNat = s by omega]; omega
        · intro u hu'; exact (hu u (by omega)).1
        · intro u hu'; exact (hu u (by omega)).2
  refine main 21 0 M2 (by omega) ?_ ?_ ?_ (fun u hu => by omega)
  · intro k n' s' hk
    rw [e2, e1]
    unfold qU
    grind
  · rw [e2, qU_s, e1, qU_k (by decide)]
  · rw [e2, qU_l (by decide), e1, qU_s]; rfl
