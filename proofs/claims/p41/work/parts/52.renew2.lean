/-! ===== Breaker.renew; the lines are determined ===== -/
theorem p_best_bd {w C L : Int → Int} {n W j c l e : Int} (hw : ∀ i, 0 ≤ w i ∧ w i ≤ 16) (hW : 8 ≤ W ∧ W ≤ 30) (hj : 0 ≤ j ∧ j < n) (hb : p_best w C L n W j (n + 1) c l e)
    (hC : ∀ i, j < i → i ≤ n → 0 ≤ C i ∧ C i ≤ 1000 * (n - i) ∧ 0 ≤ L i ∧ L i ≤ n - i) : (0 ≤ c ∧ c ≤ 1000 * (n - j)) ∧ 0 ≤ l ∧ l ≤ n - j := by
  obtain ⟨⟨h1, h2⟩, h3, h4, h5, h6⟩ := hb
  have h7 := hC e h1 (by omega)
  have h8 := hC (j + 1) (by omega) (by omega)
  have h9 := h6 (j + 1) (by omega) (by omega) (Or.inl rfl)
  have g1 := p_ws_s (w := w) hj.1
  have g2 : p_len w j (j + 1) = w j := by unfold p_len; omega
  have g3 := hw j
  have g4 : p_lc w n W j (j + 1) ≤ 1000 := by
    unfold p_lc
    rw [g2]
    have := q_sq (x := W - w j) (by omega) (by omega)
    by_cases k : w j ≤ W
    · rw [if_pos k]
      split
      · omega
      · have k2 : 0 ≤ (30 - (W - w j)) * (30 + (W - w j)) := Int.mul_nonneg (by omega) (by omega)
        have k3 : (30 - (W - w j)) * (30 + (W - w j)) = 900 - (W - w j) * (W - w j) := by rw [Int.sub_mul, Int.mul_add, Int.mul_add, Int.mul_comm (W - w j) 30]; omega
        omega
    · rw [if_neg k]; omega
  have g5 : 0 ≤ p_lc w n W j e := by
    unfold p_lc
    have : 0 ≤ (W - p_len w j e) * (W - p_len w j e) := by rcases Int.le_total 0 (W - p_len w j e) with h | h; exact Int.mul_nonneg h h; exact Int.mul_nonneg_of_nonpos_of_nonpos h h
    split
    · split <;> omega
    · omega
  omega
theorem p_tab_bd {w C L E : Int → Int} {n W : Int} (hn : 0 ≤ n) (hw : ∀ i, 0 ≤ w i ∧ w i ≤ 16) (hW : 8 ≤ W ∧ W ≤ 30) (hT : p_tab w C L E n W) : ∀ j, 0 ≤ j → j ≤ n → 0 ≤ C j ∧ C j ≤ 1000 * (n - j) ∧ 0 ≤ L j ∧ L j ≤ n - j := by
  obtain ⟨h1, h2, h3⟩ := hT
  have h : ∀ a, 0 ≤ a → a ≤ n → ∀ j, a ≤ j → j ≤ n → 0 ≤ C j ∧ C j ≤ 1000 * (n - j) ∧ 0 ≤ L j ∧ L j ≤ n - j := by
    intro a ha han
    refine q_upto (P := fun a => 0 ≤ a → ∀ j, a ≤ j → j ≤ n → 0 ≤ C j ∧ C j ≤ 1000 * (n - j) ∧ 0 ≤ L j ∧ L j ≤ n - j) han ?_ ?_ ha
    · intro _ j j1 j2
      rw [show j = n by omega, h1, h2]
      omega
    · intro a a1 a2 ih a0 j j1 j2
      have hi := ih (by omega)
      by_cases hja : j = a
      · subst hja
        have := p_best_bd hw hW ⟨a0, a2⟩ (h3 j a0 a2) (fun i i1 i2 => hi i (by omega) i2)
        omega
      · exact hi j (by omega) j2
  intro j j0 j1
  exact h 0 (Int.le_refl _) hn j j0 j1
theorem p_tab_u {w C L E C' L' E' : Int → Int} {n W : Int} (hT : p_tab w C L E n W) (hT' : p_tab w C' L' E' n W) : ∀ j, 0 ≤ j → j ≤ n → C' j = C j ∧ L' j = L j ∧ (j < n → E' j = E j) := by
  obtain ⟨h1, h2, h3⟩ := hT
  obtain ⟨k1, k2, k3⟩ := hT'
  have h : ∀ a, 0 ≤ a → a ≤ n → ∀ j, a ≤ j → j ≤ n → C' j = C j ∧ L' j = L j ∧ (j < n → E' j = E j) := by
    intro a ha han
    refine q_upto (P := fun a => 0 ≤ a → ∀ j, a ≤ j → j ≤ n → C' j = C j ∧ L' j = L j ∧ (j < n → E' j = E j)) han ?_ ?_ ha
    · intro _ j j1 j2
      rw [show j = n by omega, h1, h2, k1, k2]
      exact ⟨rfl, rfl, fun q => absurd q (Int.lt_irrefl _)⟩
    · intro a a1 a2 ih a0 j j1 j2
      have hi := ih (by omega)
      by_cases hja : j = a
      · subst hja
        obtain ⟨⟨p1, p2⟩, p3, p4, p5, p6⟩ := h3 j a0 a2
        obtain ⟨⟨r1, r2⟩, r3, r4, r5, r6⟩ := k3 j a0 a2
        have s1 := p6 (E' j) r1 r2 r3
        have s2 := r6 (E j) p1 p2 p3
        have s3 := hi (E' j) (by omega) (by omega)
        have s4 := hi (E j) (by omega) (by omega)
        rw [s4.1, s4.2.1] at s2
        rw [s3.1] at r4
        rw [s3.2.1] at r5
        have s5 : E' j = E j := by omega
        rw [s5] at r4 r5
        refine ⟨by omega, ?_, fun _ => s5⟩
        rw [s4.2.1] at *
        omega
      · exact hi j (by omega) j2
  intro j j0 j1
  exact h 0 (Int.le_refl _) (by omega) j j0 j1
theorem p_lns_u {E E' : Int → Int} {n lc lc' : Int} {le le' : Int → Int} (hE : ∀ j, 0 ≤ j → j < n → E' j = E j) (h0 : ∀ s : Nat, (s : Int) < lc → 0 ≤ p_end E s) (h : p_lns E n lc le) (h' : p_lns E' n lc' le') : lc' = lc ∧ ∀ s, 0 ≤ s → s < lc → le' s = le s := by
  obtain ⟨a1, a2, a3, a4⟩ := h
  obtain ⟨b1, b2, b3, b4⟩ := h'
  have e : ∀ s : Nat, (s : Int) ≤ lc → p_end E' s = p_end E s := by
    intro s
    induction s with
    | zero => intro _; rfl
    | succ s ih =>
      intro hs
      show E' (p_end E' s) = E (p_end E s)
      rw [ih (by omega)]
      exact hE _ (h0 s (by omega)) (a3 s (by omega))
  have e1 : lc' = lc := by
    rcases Int.lt_trichotomy lc lc' with k | k | k
    · have := b3 lc.toNat (by omega)
      rw [e _ (by omega)] at this
      omega
    · omega
    · have := a3 lc'.toNat (by omega)
      rw [← e _ (by omega)] at this
      omega
  refine ⟨e1, fun s s0 s1 => ?_⟩
  have c1 := a4 s.toNat (by omega)
  have c2 := b4 s.toNat (by omega)
  rw [show ((s.toNat : Nat) : Int) = s by omega] at c1 c2
  rw [c1, c2]
  exact e (s.toNat + 1) (by omega)
/-- what breaking an item anew leaves as it was -/
def fr1 (it : Int) (M M' : qM) : Prop := ∀ (k : Nat) (n s : Int), ¬ (((k = 12 ∨ k = 13 ∨ k = 14) ∧ n = 0) ∨ (k = 5 ∧ n = it ∧ (s = 8 ∨ s = 10 ∨ s = 11)) ∨ ((k = 36 ∨ k = 37) ∧ n = it)) → M' k n s = M k n s
/-- the lines of n words of widths w -/
def p_lined (w : Int → Int) (n W lc lcost : Int) (le : Int → Int) : Prop := ∃ C L E, p_tab w C L E n W ∧ lcost = C 0 ∧ p_lns E n lc le
theorem p_lined_u {w : Int → Int} {n W lc lcost lc' lcost' : Int} {le le' : Int → Int} (hn : 0 ≤ n) (h : p_lined w n W lc lcost le) (h' : p_lined w n W lc' lcost' le') : lc' = lc ∧ lcost' = lcost ∧ ∀ s, 0 ≤ s → s < lc → le' s = le s := by
  obtain ⟨C, L, E, h1, h2, h3⟩ := h
  obtain ⟨C', L', E', k1, k2, k3⟩ := h'
  have u := p_tab_u h1 k1
  have := p_lns_u (fun j j0 j1 => (u j j0 (by omega)).2.2 j1) (fun s hs => by
    have := p_end_lt h1.2.2 s (fun t ht => h3.2.2.1 t (by omega))
    omega) h3 k3
  refine ⟨this.1, ?_, this.2⟩
  rw [h2, k2]
  exact (u 0 (Int.le_refl _) hn).1
theorem t1 {d : Nat} {h : qH} (hS : qSe h) {it W : Int} {M : qM} {f : Int → qM → Prop} (hn : 0 ≤ M 5 it 2 ∧ M 5 it 2 ≤ 20) (hW : 8 ≤ W ∧ W ≤ 30)
    (hw : ∀ i, 0 ≤ M 32 it i + M 35 it i ∧ M 32 it i + M 35 it i ≤ 16)
    (H0 : M 5 it 0 ≠ 0 ∨ p_kept M it W → f 0 M)
    (H1 : M 5 it 0 = 0 → ¬ p_kept M it W → ∀ M', fr1 it M M' → M' 5 it 8 = W → (∀ j, 0 ≤ j → j < M 5 it 2 → M' 36 it j = M 32 it j + M 35 it j) → (∀ j, ¬ (0 ≤ j ∧ j < M 5 it 2) → M' 36 it j = M 36 it j) → p_lined (fun i => M 32 it i + M 35 it i) (M 5 it 2) W (M' 5 it 10) (M' 5 it 11) (M' 37 it) → f 1 M') : e1 (d + 3) h it W M f := by
  refine w1 hS ⟨fun h0 => t50 hS hn hw (fun hk => ⟨fun q => absurd q (by decide), fun _ => H0 (Or.inr hk)⟩) (fun hk => ⟨fun _ => ?_, fun q => absurd rfl q⟩), fun h0 => H0 (Or.inl h0)⟩
  refine ⟨⟨by omega, by omega⟩, fun M1 e1 => ?_⟩
  have n1 : M1 5 it 2 = M 5 it 2 := by rw [e1, qU_k (by decide)]
  refine ⟨⟨by omega, by omega⟩, fun M2 e2 => ?_⟩
  have n2 : M2 5 it 2 = M 5 it 2 := by rw [e2, qU_k (by decide), n1]
  refine ⟨⟨by omega, by omega⟩, ?_⟩
  generalize hwe : (fun i => M 32 it i + M 35 it i) = w at H1
  have hwi : ∀ i, w i = M 32 it i + M 35 it i := fun i => by rw [← hwe]
  generalize hne : M 5 it 2 = n at *
  have hwb : ∀ i, 0 ≤ w i ∧ w i ≤ 16 := fun i => by rw [hwi]; exact hw i
  -- the arrays of the breaker alone change
  have main : ∀ (M3 : qM), (∀ (k : Nat) (m s : Int), ¬ ((k = 12 ∨ k = 13 ∨ k = 14) ∧ m = 0) → M3 k m s = M k m s) → (M3 12 0 n = 0 ∧ M3 13 0 n = 0 ∧ ∀ i, n - 1 < i → i < n → p_best w (M3 12 0) (M3 13 0) n W i (n + 1) (M3 12 0 i) (M3 13 0 i) (M3 14 0 i)) → b1_44 d h f it W (n - 1) M3 := by
    refine q_dnto (P := fun j => ∀ (M3 : qM), (∀ (k : Nat) (m s : Int), ¬ ((k = 12 ∨ k = 13 ∨ k = 14) ∧ m = 0) → M3 k m s = M k m s) → (M3 12 0 n = 0 ∧ M3 13 0 n = 0 ∧ ∀ i, j < i → i < n → p_best w (M3 12 0) (M3 13 0) n W i (n + 1) (M3 12 0 i) (M3 13 0 i) (M3 14 0 i)) → b1_44 d h f it W j M3) (a := -1) (b := n - 1) (by omega) ?_ ?_
    · intro M3 hf ⟨i1, i2, i3⟩
      refine w1_44 hS ⟨fun _ => ?_, fun q => absurd (by decide) q⟩
      refine t4 hS (n := n) (W := W) (w := w) (C := M3 12 0) (L := M3 13 0) (by rw [hf _ _ _ (by omega)]; exact hne) hn (fun j j0 j1 => i3 j (by omega) j1) (fun M4 f4 c4 l4 => ?_)
      have tab : p_tab w (M3 12 0) (M3 13 0) (M3 14 0) n W := ⟨i1, i2, fun j j0 j1 => i3 j (by omega) j1⟩
      have last : ∀ (M5 : qM), (∀ (k : Nat) (m s : Int), ¬ (k = 36 ∧ m = it) → M5 k m s = M4 k m s) → (∀ i, 0 ≤ i → i < 0 → M5 36 it i = w i) → (∀ i, ¬ (0 ≤ i ∧ i < n) → M5 36 it i = M 36 it i) → b1_68 d h f (.inr (.inl (some (0, 0)))) it W 0 M5 := by
        refine q_upto (P := fun j => ∀ (M5 : qM), (∀ (k : Nat) (m s : Int), ¬ (k = 36 ∧ m = it) → M5 k m s = M4 k m s) → (∀ i, 0 ≤ i → i < j → M5 36 it i = w i) → (∀ i, ¬ (0 ≤ i ∧ i < n) → M5 36 it i = M 36 it i) → b1_68 d h f (.inr (.inl (some (0, 0)))) it W j M5) (a := 0) (b := n) hn.1 ?_ ?_
        · intro M5 f5 k5 r5
          have m5 : M5 5 it 2 = n := by rw [f5 _ _ _ (by omega), f4 _ _ _ (by omega), hf _ _ _ (by omega)]; exact hne
          refine w1_68 hS ⟨fun q => by omega, fun _ M6 e6 => ?_⟩
          refine H1 h0 hk M6 ?_ (by rw [e6, qU_s]) (fun j j0 j1 => ?_) (fun j j0 => by rw [e6, qU_k (by decide)]; exact r5 j j0) ⟨_, _, _, tab, ?_, ?_⟩
          · intro k m s q
            rw [e6]
            have a1 := f5 k m s (by omega)
            have a2 := f4 k m s (by omega)
            have a3 := hf k m s (by omega)
            unfold qU
            grind
          · rw [e6, qU_k (by decide), k5 j j0 j1, hwi]
          · rw [e6, qU_l (by decide), f5 _ _ _ (by omega), c4]
          · have q1 : M6 5 it 10 = M4 5 it 10 := by rw [e6, qU_l (by decide), f5 _ _ _ (by omega)]
            have q2 : M6 37 it = M4 37 it := by funext s; rw [e6, qU_k (by decide), f5 _ _ _ (by omega)]
            rw [q1, q2]
            exact l4
        · intro j j1 j2 ih M5 f5 k5 r5
          have b1 : ∀ i, M5 32 it i = M 32 it i := fun i => by rw [f5 _ _ _ (by omega), f4 _ _ _ (by omega), hf _ _ _ (by omega)]
          have b2 : ∀ i, M5 35 it i = M 35 it i := fun i => by rw [f5 _ _ _ (by omega), f4 _ _ _ (by omega), hf _ _ _ (by omega)]
          have b3 := hw j
          refine w1_68 hS ⟨fun q => t47 hS ⟨by omega, by omega⟩ (by rw [b1, b2]; exact ⟨by omega, by omega⟩) ⟨⟨by omega, by omega⟩, fun M6 e6 => ⟨⟨by omega, by omega⟩, ih M6 ?_ ?_ ?_⟩⟩, fun q => ?_⟩
          · intro k m s q
            rw [← f5 k m s q, e6]
            unfold qU
            grind
          · intro i i0 i1
            rw [e6]
            by_cases hij : i = j
            · subst hij; rw [qU_s, b1, b2, hwi]
            · rw [qU_l hij]; exact k5 i i0 (by omega)
          · intro i i0
            rw [e6, qU_l (by omega)]
            exact r5 i i0
          · exfalso
            have m5 : M5 5 it 2 = n := by rw [f5 _ _ _ (by omega), f4 _ _ _ (by omega), hf _ _ _ (by omega)]; exact hne
            omega
      exact last M4 (fun _ _ _ _ => rfl) (fun i i0 i1 => by omega) (fun i _ => by rw [f4 _ _ _ (by omega), hf _ _ _ (by omega)])
    · intro j j1 j2 ih M3 hf ⟨i1, i2, i3⟩
      have b0 : (fun i => M3 32 it i + M3 35 it i) = w := by funext i; rw [hf _ _ _ (by omega), hf _ _ _ (by omega), hwi]
      have bd : ∀ a, j ≤ a → a ≤ n → ∀ i, a < i → i ≤ n → 0 ≤ M3 12 0 i ∧ M3 12 0 i ≤ 1000 * (n - i) ∧ 0 ≤ M3 13 0 i ∧ M3 13 0 i ≤ n - i := by
        intro a a1 a2
        refine q_upto (P := fun a => j ≤ a → ∀ i, a < i → i ≤ n → 0 ≤ M3 12 0 i ∧ M3 12 0 i ≤ 1000 * (n - i) ∧ 0 ≤ M3 13 0 i ∧ M3 13 0 i ≤ n - i) a2 (fun _ i k1 k2 => by omega) (fun a k1 k2 kh k3 i k4 k5 => ?_) a1
        have kh' := kh (by omega)
        by_cases hia : i = a + 1
        · by_cases hin : i = n
          · rw [hin, i1, i2]; omega
          · have := p_best_bd hwb hW ⟨by omega, by omega⟩ (i3 i (by omega) (by omega)) (fun x x1 x2 => kh' x (by omega) x2)
            omega
        · exact kh' i (by omega) k5
      refine w1_44 hS ⟨fun q => by omega, fun _ => ?_⟩
      refine t2 hS (n := n) (by rw [hf _ _ _ (by omega)]; exact hne) ⟨by omega, by omega, hn.2⟩ hW (fun i => by rw [hf _ _ _ (by omega), hf _ _ _ (by omega)]; exact hw i) (fun i k1 k2 => bd j (Int.le_refl _) (by omega) i k1 k2) (fun M4 f4 p4 => ?_)
      rw [b0] at p4
      refine ⟨⟨by omega, by omega⟩, ?_⟩
      rw [show j + -1 = j - 1 by omega]
      have s1 : ∀ x, x ≠ j → M4 12 0 x = M3 12 0 x ∧ M4 13 0 x = M3 13 0 x ∧ M4 14 0 x = M3 14 0 x := fun x hx => ⟨f4 _ _ _ (by omega), f4 _ _ _ (by omega), f4 _ _ _ (by omega)⟩
      have s2 : ∀ i c l e, j ≤ i → p_best w (M3 12 0) (M3 13 0) n W i (n + 1) c l e → p_best w (M4 12 0) (M4 13 0) n W i (n + 1) c l e := by
        intro i c l e hi ⟨g1, g2, g3, g4, g5⟩
        refine ⟨g1, g2, by rw [(s1 e (by omega)).1]; exact g3, by rw [(s1 e (by omega)).2.1]; exact g4, fun t t1 t2 t3 => ?_⟩
        rw [(s1 t (by omega)).1, (s1 t (by omega)).2.1]
        exact g5 t t1 t2 t3
      refine ih M4 (fun k m s q => by rw [← hf k m s q]; exact f4 _ _ _ (by omega)) ⟨by rw [(s1 n (by omega)).1]; exact i1, by rw [(s1 n (by omega)).2.1]; exact i2, fun i k1 k2 => ?_⟩
      by_cases hij : i = j
      · subst hij; exact s2 i _ _ _ (Int.le_refl _) p4
      · rw [(s1 i hij).1, (s1 i hij).2.1, (s1 i hij).2.2]
        exact s2 i _ _ _ (by omega) (i3 i (by omega) k2)
  have m2 : M2 5 it 2 - 1 = n - 1 := by omega
  rw [m2]
  refine main M2 (fun k m s q => ?_) ⟨?_, ?_, fun i k1 k2 => by omega⟩
  · rw [e2, e1]
    unfold qU
    grind
  · rw [e2, qU_k (by decide), e1, qU_s]
  · rw [e2, n1, qU_s]
