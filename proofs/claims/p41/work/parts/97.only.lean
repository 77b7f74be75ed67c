/-! ===== the pages are the only ones ===== -/
def g_eq (P P' : pT) (c : Int) : Prop := ∀ (j : Nat) (k : Int), j ≤ 4 → 0 ≤ k → k < c → P' j k = P j k
theorem g_eq_bf {P P' : pT} {c k : Int} (h : g_eq P P' c) (hk : 0 ≤ k ∧ k ≤ c) : g_bf P' 0 k = g_bf P 0 k ∧ g_bf P' 1 k = g_bf P 1 k ∧ g_bf P' 2 k = g_bf P 2 k ∧ g_x P' k = g_x P k := by
  unfold g_bf g_x
  by_cases q : k ≤ 0
  · rw [if_pos q, if_pos q, if_pos q, if_pos q, if_pos q, if_pos q, if_pos (by omega), if_pos (by omega)]
    exact ⟨rfl, rfl, rfl, rfl⟩
  · rw [if_neg q, if_neg q, if_neg q, if_neg q, if_neg q, if_neg q, h (Int.toNat 0) (k - 1) (by decide) (by omega) (by omega), h (Int.toNat 1) (k - 1) (by decide) (by omega) (by omega), h (Int.toNat 2) (k - 1) (by decide) (by omega) (by omega)]
    refine ⟨rfl, rfl, rfl, ?_⟩
    have nk : ¬ k = 0 := by omega
    rw [if_neg nk, if_neg nk, h 4 (k - 1) (by decide) (by omega) (by omega)]
theorem g_eq_s {P P' : pT} {c : Int} (h : g_eq P P' c) (h0 : P' 0 c = P 0 c) (h1 : P' 1 c = P 1 c) (h2 : P' 2 c = P 2 c) (h3 : P' 3 c = P 3 c) (h4 : P' 4 c = P 4 c) : g_eq P P' (c + 1) := fun j k hj k0 k1 => by
  by_cases q : k < c
  · exact h j k hj k0 q
  · have e : k = c := by omega
    rw [e]
    rcases (show j = 0 ∨ j = 1 ∨ j = 2 ∨ j = 3 ∨ j = 4 by omega) with rfl | rfl | rfl | rfl | rfl
    · exact h0
    · exact h1
    · exact h2
    · exact h3
    · exact h4
theorem g_eq_sym {P P' : pT} {c : Int} (h : g_eq P P' c) : g_eq P' P c := fun j k a b d => (h j k a b d).symm
theorem g_pg_u {T P P' : pT} {k b m : Int} (hk : 0 ≤ k) (h : g_eq P P' k) (h1 : g_pg T P k b m) (h2 : g_pg T P' k b m) : g_eq P P' (k + 1) := by
  obtain ⟨e0, e1, e2, e3⟩ := g_eq_bf h ⟨hk, Int.le_refl _⟩
  obtain ⟨a0, a1, a2, a3, a4⟩ := h1
  obtain ⟨b0, b1, b2, b3, b4⟩ := h2
  rw [e0, e1, e2] at b2 b3 b4
  rw [e1] at b1
  exact g_eq_s h (by rw [a0, b0]) (by rw [a1, b1]) (by rw [a2, b2]) (by rw [a3, b3]) (by rw [a4, b4])
theorem g_best_u {T : pT} {I a f n x b m b' m' : Int} (h : g_best T I a f n x b m) (h' : g_best T I a f n x b' m') : b' = b ∧ m' = m := by
  obtain ⟨h1, h2, h3⟩ := h
  obtain ⟨k1, k2, k3⟩ := h'
  by_cases q : b < b' ∨ (b' = b ∧ m < m')
  · have := h3 b' m' k1 q; omega
  · by_cases q2 : b' < b ∨ (b = b' ∧ m' < m)
    · have := k3 b m h1 q2; omega
    · omega
theorem g_pB_u {T P P' : pT} {k : Int} (hk : 0 ≤ k) (h : g_eq P P' k) (h1 : g_pB T P k) (h2 : g_pB T P' k) : g_eq P P' (k + 1) := by
  obtain ⟨e0, e1, e2, e3⟩ := g_eq_bf h ⟨hk, Int.le_refl _⟩
  obtain ⟨m, a0, a1, a2, a3, a4⟩ := h1
  obtain ⟨m', b0, b1, b2, b3, b4⟩ := h2
  rw [e0, e1, e2, e3] at b0
  have u := g_best_u a0 b0
  rw [e0, e1, e2, u.1, u.2] at b2 b3 b4
  rw [e1, u.2] at b1
  exact g_eq_s h u.1 (by rw [a1, b1]) (by rw [a2, b2]) (by rw [a3, b3]) (by rw [a4, b4])
theorem g_pZ_u {T P P' : pT} {k : Int} (hk : 0 ≤ k) (h : g_eq P P' k) (h1 : g_pZ T P k) (h2 : g_pZ T P' k) : g_eq P P' (k + 1) := by
  obtain ⟨e0, e1, e2, e3⟩ := g_eq_bf h ⟨hk, Int.le_refl _⟩
  obtain ⟨_, a0, a1, a2, a3, a4⟩ := h1
  obtain ⟨_, b0, b1, b2, b3, b4⟩ := h2
  rw [e1, e2] at b2 b4
  rw [e1] at b1
  exact g_eq_s h (by rw [a0, b0]) (by rw [a1, b1]) (by rw [a2, b2]) (by rw [a3, b3]) (by rw [a4, b4])
theorem g_eq_up {P P' : pT} {a b : Int} (ha : 0 ≤ a) (h : g_eq P P' a) (hs : ∀ k, a ≤ k → k < b → g_eq P P' k → g_eq P P' (k + 1)) : ∀ k, a ≤ k → k ≤ b → g_eq P P' k := by
  have st : ∀ n : Nat, a + n ≤ b → g_eq P P' (a + n) := by
    intro n
    induction n with
    | zero => intro _; rw [show a + ((0 : Nat) : Int) = a by omega]; exact h
    | succ n ih =>
      intro hn
      rw [show a + ((n + 1 : Nat) : Int) = a + n + 1 by omega]
      exact hs _ (by omega) (by omega) (ih (by omega))
  intro k k0 k1
  have := st (k - a).toNat (by omega)
  rw [show a + ((k - a).toNat : Int) = k by omega] at this
  exact this
theorem g_kp_eq {T O P P' : pT} {same : Int → Prop} {k : Int} (hk : 0 ≤ k) (h : g_eq P P' k) (h1 : g_kp T O same P k) : g_kp T O same P' k := by
  obtain ⟨e0, e1, e2, e3⟩ := g_eq_bf h ⟨hk, Int.le_refl _⟩
  refine ⟨h1.1, ?_⟩
  rw [e0, e1, e2]
  exact h1.2
theorem g_kept_u {T O P P' : pT} {same : Int → Prop} {wo c c' : Int} (h : g_kept T O same wo P c) (h' : g_kept T O same wo P' c') : c' = c ∧ g_eq P P' c := by
  obtain ⟨a1, a2, a3⟩ := h
  obtain ⟨b1, b2, b3⟩ := h'
  have z : g_eq P P' 0 := fun j k _ k0 k1 => by omega
  have up := g_eq_up (P := P) (P' := P') (a := 0) (b := if c ≤ c' then c else c') (Int.le_refl _) z (fun k k0 k1 e => g_pg_u k0 e (a2 k k0 (by split at k1 <;> omega)).2 (b2 k k0 (by split at k1 <;> omega)).2)
  have e : c' = c := by
    by_cases q : c < c'
    · exfalso
      have u := up c a1.1 (by rw [if_pos (by omega)]; omega)
      rcases a3 with a3 | a3
      · omega
      · exact a3 (g_kp_eq a1.1 (g_eq_sym u) (b2 c a1.1 q).1)
    · by_cases q2 : c' < c
      · exfalso
        have u := up c' b1.1 (by rw [if_neg (by omega)]; omega)
        rcases b3 with b3 | b3
        · omega
        · exact b3 (g_kp_eq b1.1 u (a2 c' b1.1 q2).1)
      · omega
  refine ⟨e, up c a1.1 ?_⟩
  rw [if_pos (by omega)]; omega
theorem g_rest_u {T P Q P' Q' : pT} {c c1 c2 : Int} (hc : 0 ≤ c) (h : g_eq P P' c) (h1 : g_rest T P c Q c1) (h2 : g_rest T P' c Q' c2) : c2 = c1 ∧ g_eq Q Q' c1 := by
  obtain ⟨w1, a1, a2, a3, a4, a5, a6, a7, a8⟩ := h1
  obtain ⟨w2, b1, b2, b3, b4, b5, b6, b7, b8⟩ := h2
  have z : g_eq Q Q' c := fun j k hj k0 k1 => by rw [a3 j k k1, b3 j k k1]; exact h j k hj k0 k1
  have up := g_eq_up hc z (b := if w1 ≤ w2 then w1 else w2) (fun k k0 k1 e => g_pB_u (by omega) e (a4 k k0 (by split at k1 <;> omega)).1 (b4 k k0 (by split at k1 <;> omega)).1)
  have ew : w2 = w1 := by
    by_cases q : w1 < w2
    · exfalso
      have u := g_eq_bf (up w1 (by omega) (by rw [if_pos (by omega)]; omega)) (k := w1) ⟨by omega, by omega⟩
      have x1 := (b4 w1 (by omega) q).2
      have x2 := a6 w1 (by omega) (by omega)
      omega
    · by_cases q2 : w2 < w1
      · exfalso
        have u := g_eq_bf (up w2 (by omega) (by rw [if_neg (by omega)]; omega)) (k := w2) ⟨by omega, by omega⟩
        have x1 := (a4 w2 (by omega) q2).2
        have x2 := b6 w2 (by omega) (by omega)
        omega
      · omega
  subst ew
  have e0 := up w2 (by omega) (by rw [if_pos (by omega)]; omega)
  have up2 := g_eq_up (by omega) e0 (b := if c1 ≤ c2 then c1 else c2) (fun k k0 k1 e => g_pZ_u (by omega) e (a5 k k0 (by split at k1 <;> omega)) (b5 k k0 (by split at k1 <;> omega)))
  have ec : c2 = c1 := by
    by_cases q : c1 < c2
    · exfalso
      have u := g_eq_bf (up2 c1 (by omega) (by rw [if_pos (by omega)]; omega)) (k := c1) ⟨by omega, by omega⟩
      have x1 := (b5 c1 (by omega) q).1
      omega
    · by_cases q2 : c2 < c1
      · exfalso
        have u := g_eq_bf (up2 c2 (by omega) (by rw [if_neg (by omega)]; omega)) (k := c2) ⟨by omega, by omega⟩
        have x1 := (a5 c2 (by omega) q2).1
        omega
      · omega
  exact ⟨ec, up2 c1 (by omega) (by rw [if_pos (by omega)]; omega)⟩
