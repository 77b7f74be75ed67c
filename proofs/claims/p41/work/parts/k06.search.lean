/-! ===== the law's search for the pages with the least cost ===== -/
/-- what there is: all set, so much room used -/
def k_h (u : Nat) (h : qH) : Prop := qSe h ∧ (∀ k, 0 ≤ h.1 k) ∧ h.2.2.1 ≤ u ∧ h.2.2.2.1 ≤ 24 * u ∧ 1 ≤ h.1 71
theorem k_h_up {u u' : Nat} {h : qH} (H : k_h u h) (hu : u ≤ u') : k_h u' h := ⟨H.1, H.2.1, Nat.le_trans H.2.2.1 hu, Nat.le_trans H.2.2.2.1 (by omega), H.2.2.2.2⟩
theorem k_h_new {u j k w : Nat} {h : qH} (H : k_h u h) (hk : (qKd qT0 k).1 ≠ 0 ∧ (qKd qT0 k).1 ≠ 4) (hj : 1 ≤ j) (hw : w ≤ 24 * j) : k_h (u + j) (lNh h k w) := by
  refine ⟨⟨fun a n s q => ?_, fun a n s q s0 s1 => ?_⟩, fun a => ?_, ?_, ?_, ?_⟩
  · have : a ≠ k := fun e => by
      subst e
      unfold qRl at q
      simp only [Bool.and_eq_true, Nat.beq_eq] at q
      exact hk.1 q.1
    show (if a = k ∧ n = h.1 k then false else h.2.1 a n s) = true
    rw [if_neg (fun z => this z.1)]
    exact H.1.1 a n s q
  · have : a ≠ k := fun e => by
      subst e
      exact hk.2 (Nat.eq_of_beq_eq_true q)
    show (if a = k ∧ n = h.1 k then false else h.2.1 a n s) = true
    rw [if_neg (fun z => this z.1)]
    exact H.1.2 a n s q s0 s1
  · show 0 ≤ qUN h.1 k (h.1 k + 1) a
    unfold qUN
    have := H.2.1 k
    have := H.2.1 a
    split <;> omega
  · show h.2.2.1 + 1 ≤ u + j
    have := H.2.2.1
    omega
  · show h.2.2.2.1 + w ≤ 24 * (u + j)
    have := H.2.2.2.1
    omega
  · show 1 ≤ qUN h.1 k (h.1 k + 1) 71
    have := H.2.2.2.2
    unfold qUN
    split
    · rename_i e
      have e' : (71 : Nat) = k := e
      rw [← e']; omega
    · exact this
theorem k_h_bump {u : Nat} {h : qH} (H : k_h u h) : k_h (u + 1) (lBh h) := ⟨H.1, H.2.1, by show h.2.2.1 + 1 ≤ u + 1; have := H.2.2.1; omega, by show h.2.2.2.1 + 6 ≤ 24 * (u + 1); have := H.2.2.2.1; omega, H.2.2.2.2⟩
theorem lNm_o {M : qM} {k k2 : Nat} {n n2 s : Int} (h : ¬ (k2 = k ∧ n2 = n)) : lNm M k n k2 n2 s = M k2 n2 s := if_neg h
theorem lNm_s {M : qM} {k : Nat} {n s : Int} : lNm M k n k n s = 0 := if_pos ⟨rfl, rfl⟩
/-- the best way on, as the law keeps it -/
def k_pa (T : pT) (C : Int → Int) : Nat → Int → Int → Int → Int → Int → Prop
  | 0, k, a, _, _, _ => a = T 8 0 ∧ C 0 = k
  | t + 1, k, a, f, n, x => (a = T 8 0 ∧ C 0 = k) ∨ (a < T 8 0 ∧ ∃ b m, g_best T g_I a f n x b m ∧ C (k + 1) = b - a + 32 * m ∧ k_pa T C t (k + 1) b (f + m) (n + g_lines T a b f m n) (g_ahead T a b f m n x))
theorem k_pa_up {T : pT} {C : Int → Int} : ∀ (t t' : Nat) (k a f n x : Int), T 8 0 - a ≤ t → T 8 0 - a ≤ t' → k_pa T C t k a f n x → k_pa T C t' k a f n x
  | 0, t', k, a, f, n, x, h1, h2, h => by
    cases t' with
    | zero => exact h
    | succ t' => exact Or.inl h
  | t + 1, t', k, a, f, n, x, h1, h2, h => by
    cases t' with
    | zero =>
      rcases h with h | ⟨h, _⟩
      · exact h
      · omega
    | succ t' =>
      rcases h with h | ⟨h, b, m, hb, hc, hp⟩
      · exact Or.inl h
      · have := hb.1.1
        exact Or.inr ⟨h, b, m, hb, hc, k_pa_up t t' _ _ _ _ _ (by omega) (by omega) hp⟩
theorem k_pa_cg {T : pT} {C C' : Int → Int} : ∀ (t : Nat) (k a f n x : Int), 0 ≤ k → (∀ s, s = 0 ∨ k < s → C' s = C s) → k_pa T C t k a f n x → k_pa T C' t k a f n x
  | 0, k, a, f, n, x, _, hC, h => ⟨h.1, by rw [hC 0 (Or.inl rfl)]; exact h.2⟩
  | t + 1, k, a, f, n, x, k0, hC, h => by
    rcases h with h | ⟨h, b, m, hb, hc, hp⟩
    · exact Or.inl ⟨h.1, by rw [hC 0 (Or.inl rfl)]; exact h.2⟩
    · exact Or.inr ⟨h, b, m, hb, by rw [hC (k + 1) (Or.inr (by omega))]; exact hc, k_pa_cg t _ _ _ _ _ (by omega) (fun s q => hC s (by omega)) hp⟩
def k_od (od k : Int) : Int := if od = (if k % 2 = 0 then 1 else 0) then 1 else 0
theorem k_od_p {od k : Int} (hod : od = 0 ∨ od = 1) (hk : 0 ≤ k) : k_od od (k + 1) = 1 - k_od od k ∧ (k_od od k = 0 ∨ k_od od k = 1) := by
  unfold k_od
  by_cases e : k % 2 = 0
  · rw [if_pos e, if_neg (show ¬ (k + 1) % 2 = 0 by omega)]
    rcases hod with h0 | h0 <;> subst h0 <;> decide
  · rw [if_neg e, if_pos (show (k + 1) % 2 = 0 by omega)]
    rcases hod with h0 | h0 <;> subst h0 <;> decide
/-- where the search stands at depth k -/
def k_pos (q : Nat → Int) (k a f n x K : Int) (M : qM) : Prop := M 89 (q 89) k = a ∧ M 90 (q 90) k = f ∧ M 91 (q 91) k = n ∧ (x ≠ 0 → M 92 (q 92) k = if x = 15 then 0 else x) ∧ M 95 (q 95) k = K
def k_env (A : pA) (cnt c D sn : Int) (M : qM) : Prop := k_ch A cnt c D M ∧ k_ss A cnt sn M ∧ k_flt A cnt c M ∧ k_cn A cnt c M
def k_fs (nc k : Int) (M M' : qM) : Prop := ∀ (a : Nat) (o s : Int), ¬ (89 ≤ a ∧ a ≤ 95 ∧ k ≤ s) → ¬ (a = 76 ∧ o = 0 ∧ 29 ≤ s ∧ s ≤ 32) → ¬ (a = 97 ∧ o = nc) → M' a o s = M a o s
theorem k_fs_t {nc k k' : Int} {M M1 M2 : qM} (h : k_fs nc k M M1) (h' : k_fs nc k' M1 M2) (hk : k ≤ k') : k_fs nc k M M2 := fun a o s q1 q2 q3 => by rw [h' a o s (fun z => q1 ⟨z.1, z.2.1, by omega⟩) q2 q3, h a o s q1 q2 q3]
theorem k_env_fs {A : pA} {cnt c D sn nc k : Int} {M M' : qM} (h : k_env A cnt c D sn M) (f : k_fs nc k M M') : k_env A cnt c D sn M' := by
  obtain ⟨h1, h2, h3, h4⟩ := h
  have := h1.1.1
  exact ⟨k_ch_cg h1 (fun s => f _ _ _ (by omega) (by omega) (by omega)) (fun s => f _ _ _ (by omega) (by omega) (by omega)) (fun s => f _ _ _ (by omega) (by omega) (by omega)) (f _ _ _ (by omega) (by omega) (by omega)) (f _ _ _ (by omega) (by omega) (by omega)), fun r a b => by rw [f _ _ _ (by omega) (by omega) (by omega)]; exact h2 r a b, fun i w a b e g k3 => by rw [f _ _ _ (by omega) (by omega) (by omega)]; exact h3 i w a b e g k3, by rw [f _ _ _ (by omega) (by omega) (by omega)]; exact h4.1, by rw [f _ _ _ (by omega) (by omega) (by omega)]; exact h4.2⟩
def k_hd (d : Nat) (h : qH) (F : Int → qH → qM → Prop) (sn nc c od : Int) (q : Nat → Int) (β k : Int) (M : qM) : Prop := ∀ u8 u9 u10 u11 u22 u23 u24 u25 : qV, b204_118 d h F sn nc c u8 u9 u10 u11 od (q 89) (q 90) (q 91) (q 92) (q 93) (q 94) (q 95) β k u22 u23 u24 u25 M
/-- what the search below depth k brings -/
def k_res (T : pT) (q : Nat → Int) (nc k a f n x K β : Int) (M M' : qM) (β' : Int) : Prop := (K + g_V T g_I a f n x < β → β' = K + g_V T g_I a f n x ∧ (∀ j, 0 ≤ j → j < k → M' 97 nc (j + 1) = M 93 (q 93) j + 32 * M 94 (q 94) j) ∧ k_pa T (M' 97 nc) (T 8 0 - a).toNat k a f n x) ∧ (¬ K + g_V T g_I a f n x < β → β' = β ∧ ∀ s, M' 97 nc s = M 97 nc s)
/-- candidates that have been looked at -/
def k_pc (a N O b m : Int) : Prop := a + N < b ∨ (b = a + N ∧ O ≤ m)
def k_inv (T : pT) (q : Nat → Int) (nc k a f n x K β N O : Int) (M M' : qM) (β' : Int) : Prop := (β' = β ∧ (∀ s, M' 97 nc s = M 97 nc s) ∧ ∀ b m, g_can T a f n b m → k_pc a N O b m → β ≤ K + g_val T g_I a f n x b m) ∨ (∃ b m, g_can T a f n b m ∧ k_pc a N O b m ∧ β' = K + g_val T g_I a f n x b m ∧ β' < β ∧ (∀ b' m', g_can T a f n b' m' → k_pc a N O b' m' → g_val T g_I a f n x b m ≤ g_val T g_I a f n x b' m' ∧ ((b < b' ∨ (b' = b ∧ m < m')) → g_val T g_I a f n x b m < g_val T g_I a f n x b' m')) ∧ (∀ j, 0 ≤ j → j < k → M' 97 nc (j + 1) = M 93 (q 93) j + 32 * M 94 (q 94) j) ∧ M' 97 nc (k + 1) = b - a + 32 * m ∧ k_pa T (M' 97 nc) (T 8 0 - b).toNat (k + 1) b (f + m) (n + g_lines T a b f m n) (g_ahead T a b f m n x))
/-- all looked at: the result -/
theorem k_inv_end {T : pT} {q : Nat → Int} {nc k a f n x K β β' : Int} {M M' : qM} (ha : a < T 8 0) (hK : 0 ≤ K) (hβ : β ≤ g_I) {N O : Int} (hall : ∀ b m, g_can T a f n b m → k_pc a N O b m) (h : k_inv T q nc k a f n x K β N O M M' β') : k_res T q nc k a f n x K β M M' β' := by
  have V := g_V_p (T := T) (I := g_I) (a := a) (f := f) (n := n) (x := x) ha
  rcases h with ⟨h1, h2, h3⟩ | ⟨b, m, hc, hp, h1, h2, h3, h4, h5, h6⟩
  · refine ⟨fun z => ?_, fun _ => ⟨h1, h2⟩⟩
    exfalso
    rcases V.2.2 with e | ⟨b, m, hc, e⟩
    · omega
    · have := h3 b m hc (hall b m hc)
      omega
  · have ev : g_V T g_I a f n x = g_val T g_I a f n x b m := by
      have a1 := V.2.1 b m hc
      rcases V.2.2 with e | ⟨b', m', hc', e⟩
      · omega
      · have := (h3 b' m' hc' (hall b' m' hc')).1
        omega
    refine ⟨fun _ => ⟨by omega, h4, ?_⟩, fun z => absurd (by omega) z⟩
    have hb : g_best T g_I a f n x b m := ⟨hc, ev.symm, fun b' m' hc' hbb => by rw [ev]; exact (h3 b' m' hc' (hall b' m' hc')).2 hbb⟩
    have c1 := hc.1
    obtain ⟨t, ht⟩ : ∃ t, (T 8 0 - a).toNat = t + 1 := ⟨(T 8 0 - a).toNat - 1, by omega⟩
    rw [ht]
    exact Or.inr ⟨ha, b, m, hb, h5, k_pa_up _ _ _ _ _ _ _ (by omega) (by omega) h6⟩
theorem k_inv_cg {T : pT} {q : Nat → Int} {nc k a f n x K β N O β' : Int} {M M' M2 : qM} (h : k_inv T q nc k a f n x K β N O M M' β') (hC : ∀ s, M2 97 nc s = M' 97 nc s) : k_inv T q nc k a f n x K β N O M M2 β' := by
  have eC : M2 97 nc = M' 97 nc := by funext s; exact hC s
  unfold k_inv at h ⊢
  rw [eC]
  exact h
theorem k_pos_fs {q : Nat → Int} {nc k k' a f n x K : Int} {M M' : qM} (h : k_pos q k a f n x K M) (f' : k_fs nc k' M M') (hk : k < k') : k_pos q k a f n x K M' := by
  obtain ⟨h1, h2, h3, h4, h5⟩ := h
  exact ⟨by rw [f' _ _ _ (by omega) (by omega) (by omega)]; exact h1, by rw [f' _ _ _ (by omega) (by omega) (by omega)]; exact h2, by rw [f' _ _ _ (by omega) (by omega) (by omega)]; exact h3, by rw [f' _ _ _ (by omega) (by omega) (by omega)]; exact h4, by rw [f' _ _ _ (by omega) (by omega) (by omega)]; exact h5⟩
theorem g_far_p {T : pT} {a b f m n x : Int} (hx : 0 ≤ x ∧ x ≤ 15) (hf : 1 ≤ g_fill T a b f m n ∧ g_fill T a b f m n ≤ 14) : 0 ≤ g_far T a b f m n x ∧ g_far T a b f m n x ≤ 15 := by
  unfold g_far
  split
  · omega
  · split
    · omega
    · split
      · split <;> omega
      · omega
section
variable {d : Nat} {h : qH} {M : qM} {A : pA} {cnt c D a b fl sh n m x bf : Int} {f : Int → qM → Prop}
theorem L201n {N : Int} (hN : b - a = N) (hS : qSe h) (hK : k_ch A cnt c D M) (hs : k_ss A cnt n M) (hf : k_flt A cnt c M) (ha : g_at (p_T A cnt D) a fl sh) (hab : a < b ∧ b ≤ p_SR A cnt) (hm : 0 ≤ m ∧ m ≤ 2 ∧ fl + m ≤ p_fl A b)
    (hx : (bf = x ∧ 1 ≤ x ∧ x ≤ 14) ∨ (bf = 0 ∧ (x = 0 ∨ x = 15)))
    (H0 : ¬ g_can (p_T A cnt D) a fl sh b m → f 0 M)
    (H1 : g_can (p_T A cnt D) a fl sh b m → ∀ M', (∀ (k : Nat) (o s : Int), ¬ (k = 76 ∧ o = 0 ∧ 29 ≤ s ∧ s ≤ 32) → M' k o s = M k o s) → M' 76 0 29 = g_lines (p_T A cnt D) a b fl m sh → M' 76 0 30 = g_grown (p_T A cnt D) a b fl m sh → M' 76 0 31 = g_fill (p_T A cnt D) a b fl m sh → M' 76 0 32 = g_cost (p_T A cnt D) a b fl m sh + g_far (p_T A cnt D) a b fl m sh x → f 1 M') : e201 (d + 3) h n c a fl sh bf N m M f := by
  subst hN
  exact L201 hS hK hs hf ha hab hm hx H0 H1
end
section
variable {d : Nat} {h : qH} {F : Int → qH → qM → Prop} {A : pA} {cnt c D sn nc od : Int} {q : Nat → Int}
/-- the best way is written down -/
theorem k_way {β k : Int} (hS : qSe h) (hk : 0 ≤ k ∧ k ≤ 22) : ∀ (t : Nat) (j : Int) (M : qM), k + 1 - j ≤ t → (0 ≤ j ∧ j ≤ k + 1) → (∀ i, 0 ≤ i → i ≤ k → (0 ≤ M 93 (q 93) i ∧ M 93 (q 93) i ≤ 31) ∧ (0 ≤ M 94 (q 94) i ∧ M 94 (q 94) i ≤ 3)) → (∀ M', (∀ (a : Nat) (o s : Int), ¬ (a = 97 ∧ o = nc ∧ j + 1 ≤ s ∧ s ≤ k + 1) → M' a o s = M a o s) → (∀ i, j ≤ i → i ≤ k → M' 97 nc (i + 1) = M 93 (q 93) i + 32 * M 94 (q 94) i) → k_hd d h F sn nc c od q β k M') → ∀ u8 u9 u10 u11 u22 u23 u24 : qV, b204_385 d h F sn nc c u8 u9 u10 u11 od (q 89) (q 90) (q 91) (q 92) (q 93) (q 94) (q 95) β k u22 u23 u24 j M := by
  intro t
  induction t with
  | zero =>
    intro j M ht hj _ H u8 u9 u10 u11 u22 u23 u24
    exact w204_385 hS ⟨fun z => absurd z (by omega), fun _ => H M (fun _ _ _ _ => rfl) (fun i a b => absurd a (by omega)) _ _ _ _ _ _ _ _⟩
  | succ t ih =>
    intro j M ht hj rg H u8 u9 u10 u11 u22 u23 u24
    refine w204_385 hS ⟨fun z => ?_, fun z => H M (fun _ _ _ _ => rfl) (fun i a b => absurd a (by omega)) _ _ _ _ _ _ _ _⟩
    have r := rg j hj.1 z
    refine ⟨⟨by omega, by omega⟩, ⟨by omega, by omega⟩, ⟨by omega, by omega⟩, ⟨by omega, by omega⟩, ⟨by omega, by omega⟩, ⟨by omega, by omega⟩, fun M2 e2 => ⟨⟨by omega, by omega⟩, ?_⟩⟩
    have O2 : ∀ (a : Nat) (o s : Int), ¬ (a = 97 ∧ o = nc ∧ s = j + 1) → M2 a o s = M a o s := fun a o s z => by rw [e2]; unfold qU; rw [if_neg z]
    refine ih (j + 1) M2 (by omega) (by omega) (fun i a b => by rw [O2 _ _ _ (by omega), O2 _ _ _ (by omega)]; exact rg i a b) (fun M3 f3 v3 => H M3 (fun a o s y => ?_) (fun i a b => ?_)) _ _ _ _ _ _ _
    · rw [f3 a o s (fun e => y ⟨e.1, e.2.1, by omega, e.2.2.2⟩), O2 a o s (fun e => y ⟨e.1, e.2.1, by omega, by omega⟩)]
    · by_cases e : i = j
      · subst e
        rw [f3 _ _ _ (by omega), e2, qU_s]
      · rw [v3 i (by omega) b, O2 _ _ _ (by omega), O2 _ _ _ (by omega)]
theorem k_exp (hS : qSe h) (hod : od = 0 ∨ od = 1) : ∀ (t : Nat) (k a fl sh x K β : Int) (M : qM), p_SR A cnt - a ≤ t → (0 ≤ k ∧ k + (p_SR A cnt - a) ≤ 20) → (0 ≤ a ∧ a < p_SR A cnt) → g_at (p_T A cnt D) a fl sh → (0 ≤ x ∧ x ≤ 15) → (x = 0 ↔ k_od od k = 0) → (0 ≤ K ∧ K ≤ 500 * k) → β ≤ g_I → k_env A cnt c D sn M → k_pos q k a fl sh x K M → M 93 (q 93) k = (if p_SR A cnt - a < D then p_SR A cnt - a else D) → M 94 (q 94) k = 3 → (∀ j, 0 ≤ j → j < k → (0 ≤ M 93 (q 93) j ∧ M 93 (q 93) j ≤ 31) ∧ (0 ≤ M 94 (q 94) j ∧ M 94 (q 94) j ≤ 3)) → (∀ M' β', k_fs nc k M M' → k_res (p_T A cnt D) q nc k a fl sh x K β M M' β' → k_hd d h F sn nc c od q β' (k - 1) M') → k_hd d h F sn nc c od q β k M := by
  intro t
  induction t with
  | zero => intro k a fl sh x K β M ht _ ha; omega
  | succ t ih =>
    intro k a fl sh x K β M ht hk ha hat hx hpar hK hβ env pos n0 o0 rg H
    obtain ⟨hch, hss, hfl, hcn⟩ := id env
    obtain ⟨hA, hD, ⟨m2, m19⟩, hr, hi, hw⟩ := id hch
    have hT := p_T_tab hA.2.2.2.1 hD
    have c3 := hA.1
    have s16 := hA.2.2.2.2
    have T8 := p_T_8 (A := A) (cnt := cnt) (D := D)
    have e1 : ∀ r, p_T A cnt D 1 r = p_fl A r := fun _ => rfl
    have e2 : ∀ r, p_T A cnt D 2 r = p_nl A r := fun _ => rfl
    have inner : ∀ (w : Nat) (N O β1 : Int) (M1 : qM), 4 * N + O ≤ w → (0 ≤ N ∧ N ≤ (if p_SR A cnt - a < D then p_SR A cnt - a else D)) → (0 ≤ O ∧ O ≤ 3) → k_fs nc k M M1 → k_pos q k a fl sh x K M1 → M1 93 (q 93) k = N → M1 94 (q 94) k = O → k_inv (p_T A cnt D) q nc k a fl sh x K β N O M M1 β1 → β1 ≤ β → k_hd d h F sn nc c od q β1 k M1 := by
      intro w
      induction w using Nat.strongRecOn with
      | ind w ihw =>
        intro N O β1 M1 hw1 hN hO fs1 pos1 v93 v94 inv hβ1
        have hmn : (if p_SR A cnt - a < D then p_SR A cnt - a else D) ≤ p_SR A cnt - a ∧ (if p_SR A cnt - a < D then p_SR A cnt - a else D) ≤ D := by split <;> omega
        -- a candidate
        have cand : ∀ (N' O' : Int) (M2 : qM), ((N' = N ∧ O' = O - 1) ∨ (N' = N - 1 ∧ O = 0 ∧ O' = 2)) → (0 ≤ O' ∧ O' ≤ 2) → k_fs nc k M M2 → k_pos q k a fl sh x K M2 → M2 93 (q 93) k = N' → M2 94 (q 94) k = O' → (∀ s, M2 97 nc s = M1 97 nc s) → ∀ u8 u9 u10 u11 u22 u23 u24 u25 : qV, b204_155 d h F sn nc c u8 u9 u10 u11 od (q 89) (q 90) (q 91) (q 92) (q 93) (q 94) (q 95) β1 k u22 u23 u24 u25 M2 := by
          intro N' O' M2 hNO hO' fs2 pos2 v932 v942 hC u8 u9 u10 u11 u22 u23 u24 u25
          have env2 := k_env_fs env fs2
          obtain ⟨p89, p90, p91, p92, p95⟩ := id pos2
          refine w204_155 hS ⟨⟨by omega, by omega⟩, ?_⟩
          rw [v932]
          refine ⟨fun lt1 => ⟨⟨by omega, by omega⟩, ?_⟩, fun ge1 => ⟨⟨by omega, by omega⟩, ⟨by omega, by omega⟩, ?_⟩⟩
          · have hh := H M2 β1 fs2 (k_inv_end (by rw [T8.1]; exact ha.2) hK.1 hβ (N := N) (O := O) (fun b m hc => ?_) (k_inv_cg inv hC)) u8 u9 u10 u11 u22 u23 u24 u25
            · rw [show k - 1 = k + -1 by omega] at hh
              exact hh
            · have := hc.1.1
              have := hc.2.1.1
              unfold k_pc
              omega
          · have hbR : a + N' ≤ p_SR A cnt := by omega
            have NEXT : ∀ (M5 : qM) (β5 : Int), k_fs nc k M M5 → k_pos q k a fl sh x K M5 → M5 93 (q 93) k = N' → M5 94 (q 94) k = O' → k_inv (p_T A cnt D) q nc k a fl sh x K β N' O' M M5 β5 → β5 ≤ β → k_hd d h F sn nc c od q β5 k M5 := fun M5 β5 fs5 pos5 v5 w5 inv5 hb5 => ihw (4 * N' + O').toNat (by omega) N' O' β5 M5 (by omega) (by omega) (by omega) fs5 pos5 v5 w5 inv5 hb5
            have hp : ∀ b m, k_pc a N' O' b m → (0 ≤ m ∧ m ≤ 2) → k_pc a N O b m ∨ (b = a + N' ∧ m = O') := fun b m hq hm => by
              unfold k_pc at hq ⊢
              omega
            have noT : (g_can (p_T A cnt D) a fl sh (a + N') O' → β1 ≤ K + g_val (p_T A cnt D) g_I a fl sh x (a + N') O') → ∀ M5, (∀ s, M5 97 nc s = M1 97 nc s) → k_inv (p_T A cnt D) q nc k a fl sh x K β N' O' M M5 β1 := by
              intro hno M5 hC5
              rcases inv with ⟨h1, h2, h3⟩ | ⟨b, m, hc, hpp, h1, h2, h3, h4, h5, h6⟩
              · refine Or.inl ⟨h1, fun s => by rw [hC5]; exact h2 s, fun b m hc' hp' => ?_⟩
                rcases hp b m hp' ⟨hc'.2.1.1, hc'.2.1.2.1⟩ with z | ⟨rfl, rfl⟩
                · exact h3 b m hc' z
                · have := hno hc'; omega
              · have eC : M5 97 nc = M1 97 nc := by funext s; exact hC5 s
                have hcm := hc.2.1
                refine Or.inr ⟨b, m, hc, by unfold k_pc at hpp ⊢; omega, h1, h2, fun b' m' hc' hp' => ?_, fun j a b => by rw [hC5]; exact h4 j a b, by rw [hC5]; exact h5, by rw [eC]; exact h6⟩
                rcases hp b' m' hp' ⟨hc'.2.1.1, hc'.2.1.2.1⟩ with z | ⟨rfl, rfl⟩
                · exact h3 b' m' hc' z
                · have := hno hc'
                  refine ⟨by omega, fun z => ?_⟩
                  exfalso
                  unfold k_pc at hpp
                  omega
            have yesT : ∀ (β2 : Int) (M5 : qM), g_can (p_T A cnt D) a fl sh (a + N') O' → β2 = K + g_val (p_T A cnt D) g_I a fl sh x (a + N') O' → β2 < β1 → (∀ j, 0 ≤ j → j < k → M5 97 nc (j + 1) = M 93 (q 93) j + 32 * M 94 (q 94) j) → M5 97 nc (k + 1) = N' + 32 * O' → k_pa (p_T A cnt D) (M5 97 nc) (p_T A cnt D 8 0 - (a + N')).toNat (k + 1) (a + N') (fl + O') (sh + g_lines (p_T A cnt D) a (a + N') fl O' sh) (g_ahead (p_T A cnt D) a (a + N') fl O' sh x) → k_inv (p_T A cnt D) q nc k a fl sh x K β N' O' M M5 β2 := by
              intro β2 M5 hc hv hlt h4 h5 h6
              refine Or.inr ⟨a + N', O', hc, by unfold k_pc; omega, hv, by omega, fun b' m' hc' hp' => ?_, h4, by rw [h5]; omega, h6⟩
              rcases hp b' m' hp' ⟨hc'.2.1.1, hc'.2.1.2.1⟩ with z | ⟨rfl, rfl⟩
              · have : β1 ≤ K + g_val (p_T A cnt D) g_I a fl sh x b' m' := by
                  rcases inv with ⟨h1, _, h3⟩ | ⟨b, m, _, _, h1, _, h3, _⟩
                  · rw [h1]; exact h3 b' m' hc' z
                  · rw [h1]; have := (h3 b' m' hc' z).1; omega
                exact ⟨by omega, fun _ => by omega⟩
              · exact ⟨Int.le_refl _, fun z => by omega⟩
            have sN := env2.2.1 (a + N') (by omega) hbR
            have tN := g_tab_at hT (a := a + N') ⟨by omega, by rw [T8.1]; exact hbR⟩
            rw [T8.2.2.1, T8.2.2.2, e1, e2] at tN
            have F4 := hT.2.2.1
            have N12 := hT.2.2.2.1
            rw [T8.2.2.1] at F4
            rw [T8.2.2.2] at N12
            have hat1 := hat.2.1
            have hat2 := hat.2.2
            rw [e1] at hat1
            rw [p89, p90, p91, v942, sN, show (p_nl A (a + N') + 16 * p_fl A (a + N')) / 16 = p_fl A (a + N') by omega]
            have ta := g_tab_at hT (a := a) ⟨ha.1, by rw [T8.1]; omega⟩
            rw [T8.2.2.1, T8.2.2.2, e1, e2] at ta
            rw [e2] at hat2
            refine ⟨⟨by omega, by omega⟩, by omega, fun y1 hy1 y2 hy2 => ?_⟩
            have ey2 : y2 = k_od od k := by rw [hy2, hy1]; rfl
            refine ⟨⟨by omega, by omega⟩, ⟨by omega, by omega⟩, ⟨by omega, by omega⟩, ⟨by omega, by omega⟩, fun fok => ⟨⟨by omega, by omega⟩, ⟨by omega, by omega⟩, ⟨by omega, by omega⟩, fun _ => ⟨by omega, by omega⟩, fun bf hbf => ⟨⟨by omega, by omega⟩, ⟨by omega, by omega⟩, ?_⟩⟩, fun fno => NEXT M2 β1 fs2 pos2 v932 v942 (noT (fun hc => ?_) M2 hC) hβ1 u8 u9 u10 u11 _ _ _ _⟩
            · -- the page is tried
              have h4 := hT.2.2.2.2.2.2.1 a (a + N') ha.1 (by omega) (by rw [T8.1]; exact hbR)
              refine L201n (N := N') (by omega) (A := A) (cnt := cnt) (D := D) (b := a + N') (x := x) hS env2.1 env2.2.1 env2.2.2.1 hat ⟨by omega, hbR⟩ ⟨by omega, by omega, by omega⟩ ?_ (fun hno => ⟨fun _ => NEXT M2 β1 fs2 pos2 v932 v942 (noT (fun hc => absurd hc hno) M2 hC) hβ1 u8 u9 u10 u11 _ _ _ _, fun z => absurd rfl z⟩) (fun hc M5 fr5 v29 v30 v31 v32 => ⟨fun z => absurd z (by omega), fun _ => ⟨⟨by omega, by omega⟩, ?_⟩⟩)
              · by_cases y0 : y2 = 0
                · have x0 : x = 0 := hpar.2 (by rw [← ey2]; exact y0)
                  rw [if_pos y0] at hbf
                  exact Or.inr ⟨hbf, Or.inl x0⟩
                · have x0 : ¬ x = 0 := fun z => y0 (by rw [ey2]; exact hpar.1 z)
                  rw [if_neg y0, p92 x0] at hbf
                  by_cases x15 : x = 15
                  · rw [if_pos x15] at hbf; exact Or.inr ⟨hbf, Or.inr x15⟩
                  · rw [if_neg x15] at hbf; exact Or.inl ⟨hbf, by omega, by omega⟩
              -- it can be
              have fs5 : k_fs nc k M M5 := k_fs_t fs2 (fun a o s q1 q2 q3 => fr5 a o s q2) (Int.le_refl _)
              have env5 := k_env_fs env fs5
              have pos5 : k_pos q k a fl sh x K M5 := ⟨by rw [fr5 _ _ _ (by omega)]; exact p89, by rw [fr5 _ _ _ (by omega)]; exact p90, by rw [fr5 _ _ _ (by omega)]; exact p91, by rw [fr5 _ _ _ (by omega)]; exact p92, by rw [fr5 _ _ _ (by omega)]; exact p95⟩
              have v935 : M5 93 (q 93) k = N' := by rw [fr5 _ _ _ (by omega)]; exact v932
              have v945 : M5 94 (q 94) k = O' := by rw [fr5 _ _ _ (by omega)]; exact v942
              have hC5 : ∀ s, M5 97 nc s = M1 97 nc s := fun s => by rw [fr5 _ _ _ (by omega)]; exact hC s
              have nums := g_nums hT hat hc.1 ⟨hc.2.1.1, hc.2.1.2.2⟩
              have nok := nums.2.2.2.2.2 hc.2.2
              have nx := g_next hT hat hc.1 ⟨hc.2.1.1, hc.2.1.2.2⟩ hc.2.2
              have nfar := g_far_p (T := p_T A cnt D) (a := a) (b := a + N') (f := fl) (m := O') (n := sh) hx nok.2.2.2.1
              have ax : 0 ≤ g_ahead (p_T A cnt D) a (a + N') fl O' sh x ∧ g_ahead (p_T A cnt D) a (a + N') fl O' sh x ≤ 14 := by
                unfold g_ahead
                split <;> omega
              have V0 := g_V_0 hT (I := g_I) (by decide) _ (a + N') (fl + O') (sh + g_lines (p_T A cnt D) a (a + N') fl O' sh) (g_ahead (p_T A cnt D) a (a + N') fl O' sh x) (Int.self_le_toNat _) nx ⟨ax.1, by omega⟩
              have eval : g_val (p_T A cnt D) g_I a fl sh x (a + N') O' = g_cost (p_T A cnt D) a (a + N') fl O' sh + g_far (p_T A cnt D) a (a + N') fl O' sh x + g_V (p_T A cnt D) g_I (a + N') (fl + O') (sh + g_lines (p_T A cnt D) a (a + N') fl O' sh) (g_ahead (p_T A cnt D) a (a + N') fl O' sh x) := rfl
              have nx1 := nx.2.1.2
              have nx2 := nx.2.2
              have tb := g_tab_at hT nx.1
              rw [T8.2.2.1, T8.2.2.2] at tb
              have m19' : M5 76 0 (19 + c) = p_SR A cnt := env5.1.2.2.1.2
              have m2' : M5 76 0 2 = D := env5.1.2.2.1.1
              rw [pos5.2.2.2.2, v32, pos5.2.1, v945, pos5.2.2.1, v29, m19']
              generalize hits : g_cost (p_T A cnt D) a (a + N') fl O' sh + g_far (p_T A cnt D) a (a + N') fl O' sh x = cf at *
              refine ⟨⟨by omega, by omega⟩, fun lt => ⟨⟨by omega, by omega⟩, ⟨by omega, by omega⟩, fun lastb => ⟨⟨by omega, by omega⟩, ⟨by omega, by omega⟩, ⟨by omega, by omega⟩, ⟨by omega, by omega⟩, ⟨by omega, by omega⟩, ?_⟩, fun notl => ?_⟩, fun ge => NEXT M5 β1 fs5 pos5 v935 v945 (noT (fun _ => by rw [eval]; omega) M5 hC5) hβ1 u8 u9 u10 u11 _ _ _ _⟩
              · -- the last page with rows
                refine L202 (D := D) (A := A) (cnt := cnt) hS env5.1 env5.2.2.1 env5.2.2.2 ⟨by omega, by omega⟩ ⟨by omega, by omega⟩ ?_
                have bN := g_bN_s hT (f := fl + O') (n := sh + g_lines (p_T A cnt D) a (a + N') fl O' sh) ⟨by omega, by rw [T8.2.2.1]; omega⟩ ⟨by omega, by rw [T8.2.2.2]; omega⟩
                have eV := g_V_end (T := p_T A cnt D) (I := g_I) (a := a + N') (f := fl + O') (n := sh + g_lines (p_T A cnt D) a (a + N') fl O' sh) (x := g_ahead (p_T A cnt D) a (a + N') fl O' sh x) (by rw [T8.1]; omega)
                refine ⟨⟨by omega, by omega⟩, ⟨by omega, by omega⟩, fun lt2 => ⟨⟨by omega, by omega⟩, fun M6 e6 => ?_⟩, fun ge2 => NEXT M5 β1 fs5 pos5 v935 v945 (noT (fun _ => by rw [eval, eV]; omega) M5 hC5) hβ1 u8 u9 u10 u11 _ _ _ _⟩
                have O6 : ∀ (a : Nat) (o s : Int), ¬ (a = 97 ∧ o = nc ∧ s = 0) → M6 a o s = M5 a o s := fun a o s z => by rw [e6]; unfold qU; rw [if_neg z]
                have rgj : ∀ i, 0 ≤ i → i < k → M5 93 (q 93) i = M 93 (q 93) i ∧ M5 94 (q 94) i = M 94 (q 94) i := fun i a b => ⟨fs5 _ _ _ (by omega) (by omega) (by omega), fs5 _ _ _ (by omega) (by omega) (by omega)⟩
                refine k_way hS ⟨by omega, by omega⟩ (k + 1).toNat 0 M6 (by omega) ⟨by omega, by omega⟩ (fun i i0 i1 => ?_) (fun M7 f7 v7 => ?_) _ _ _ _ _ _ _
                · rw [O6 _ _ _ (by omega), O6 _ _ _ (by omega)]
                  by_cases e : i = k
                  · subst e; rw [v935, v945]; omega
                  · rw [(rgj i i0 (by omega)).1, (rgj i i0 (by omega)).2]; exact rg i i0 (by omega)
                · have O7 : ∀ (a : Nat) (o s : Int), ¬ (a = 97 ∧ o = nc) → M7 a o s = M5 a o s := fun a o s z => by rw [f7 a o s (fun y => z ⟨y.1, y.2.1⟩), O6 a o s (fun y => z ⟨y.1, y.2.1⟩)]
                  refine NEXT M7 (K + cf + 5 * g_bN (p_T A cnt D) (fl + O') (sh + g_lines (p_T A cnt D) a (a + N') fl O' sh)) (k_fs_t fs5 (fun a o s q1 q2 q3 => O7 a o s q3) (Int.le_refl _)) ⟨by rw [O7 _ _ _ (by omega)]; exact pos5.1, by rw [O7 _ _ _ (by omega)]; exact pos5.2.1, by rw [O7 _ _ _ (by omega)]; exact pos5.2.2.1, by rw [O7 _ _ _ (by omega)]; exact pos5.2.2.2.1, by rw [O7 _ _ _ (by omega)]; exact pos5.2.2.2.2⟩ (by rw [O7 _ _ _ (by omega)]; exact v935) (by rw [O7 _ _ _ (by omega)]; exact v945) (yesT _ M7 hc (by rw [eval, eV]; omega) (by omega) (fun j j0 j1 => ?_) ?_ ?_) (by omega)
                  · rw [v7 j j0 (by omega), O6 _ _ _ (by omega), O6 _ _ _ (by omega), (rgj j j0 j1).1, (rgj j j0 j1).2]
                  · rw [v7 k (by omega) (Int.le_refl _), O6 _ _ _ (by omega), O6 _ _ _ (by omega), v935, v945]
                  · rw [show (p_T A cnt D 8 0 - (a + N')).toNat = 0 by rw [T8.1]; omega]
                    refine ⟨by rw [T8.1]; omega, ?_⟩
                    rw [f7 _ _ _ (by omega), e6, qU_s]
              · -- one page deeper
                refine ⟨⟨by omega, by omega⟩, ⟨by omega, by omega⟩, fun Ma ea => ?_⟩
                simp only [show k + 1 - 1 = k by omega]
                have Oa : ∀ (a : Nat) (o s : Int), ¬ (a = 89 ∧ s = k + 1) → Ma a o s = M5 a o s := fun a o s z => by rw [ea]; unfold qU; rw [if_neg (fun y => z ⟨y.1, y.2.2⟩)]
                rw [Oa 90 (q 90) k (by omega), Oa 94 (q 94) k (by omega), pos5.2.1, v945]
                refine ⟨⟨by omega, by omega⟩, ⟨by omega, by omega⟩, ⟨by omega, by omega⟩, ⟨by omega, by omega⟩, ⟨by omega, by omega⟩, ⟨by omega, by omega⟩, fun Mb eb => ?_⟩
                have Ob : ∀ (a : Nat) (o s : Int), ¬ (89 ≤ a ∧ a ≤ 90 ∧ s = k + 1) → Mb a o s = M5 a o s := fun a o s z => by rw [eb]; unfold qU; rw [if_neg (fun y => z ⟨by omega, by omega, y.2.2⟩)]; exact Oa a o s (fun y => z ⟨by omega, by omega, y.2⟩)
                rw [Ob 91 (q 91) k (by omega), Ob 76 0 29 (by omega), pos5.2.2.1, v29]
                refine ⟨⟨by omega, by omega⟩, ⟨by omega, by omega⟩, ⟨by omega, by omega⟩, ⟨by omega, by omega⟩, fun Mc ec => ?_⟩
                have Oc : ∀ (a : Nat) (o s : Int), ¬ (89 ≤ a ∧ a ≤ 91 ∧ s = k + 1) → Mc a o s = M5 a o s := fun a o s z => by rw [ec]; unfold qU; rw [if_neg (fun y => z ⟨by omega, by omega, y.2.2⟩)]; exact Ob a o s (fun y => z ⟨by omega, by omega, y.2.2⟩)
                rw [Oc 76 0 31 (by omega), v31]
                refine ⟨⟨by omega, by omega⟩, fun Md ed => ?_⟩
                have Od : ∀ (a : Nat) (o s : Int), ¬ (89 ≤ a ∧ a ≤ 92 ∧ s = k + 1) → Md a o s = M5 a o s := fun a o s z => by rw [ed]; unfold qU; rw [if_neg (fun y => z ⟨by omega, by omega, y.2.2⟩)]; exact Oc a o s (fun y => z ⟨by omega, by omega, y.2.2⟩)
                rw [Od 76 0 (19 + c) (by omega), Od 76 0 2 (by omega), m19', m2']
                refine ⟨⟨by omega, by omega⟩, ⟨by omega, by omega⟩, ⟨by omega, by omega⟩, fun _ => ⟨⟨by omega, by omega⟩, ⟨by omega, by omega⟩, by omega, by omega⟩, fun nn hnn => ⟨⟨by omega, by omega⟩, fun Me ee => ⟨⟨by omega, by omega⟩, fun Mf ef => ⟨⟨by omega, by omega⟩, fun Mg eg => ?_⟩⟩⟩⟩
                have Oe : ∀ (a : Nat) (o s : Int), ¬ (89 ≤ a ∧ a ≤ 93 ∧ s = k + 1) → Me a o s = M5 a o s := fun a o s z => by rw [ee]; unfold qU; rw [if_neg (fun y => z ⟨by omega, by omega, y.2.2⟩)]; exact Od a o s (fun y => z ⟨by omega, by omega, y.2.2⟩)
                have Of : ∀ (a : Nat) (o s : Int), ¬ (89 ≤ a ∧ a ≤ 94 ∧ s = k + 1) → Mf a o s = M5 a o s := fun a o s z => by rw [ef]; unfold qU; rw [if_neg (fun y => z ⟨by omega, by omega, y.2.2⟩)]; exact Oe a o s (fun y => z ⟨by omega, by omega, y.2.2⟩)
                have Og : ∀ (a : Nat) (o s : Int), ¬ (89 ≤ a ∧ a ≤ 95 ∧ s = k + 1) → Mg a o s = M5 a o s := fun a o s z => by rw [eg]; unfold qU; rw [if_neg (fun y => z ⟨by omega, by omega, y.2.2⟩)]; exact Of a o s (fun y => z ⟨by omega, by omega, y.2.2⟩)
                have fsg : k_fs nc k M Mg := k_fs_t fs5 (fun a o s q1 q2 q3 => Og a o s (by omega)) (Int.le_refl _)
                have par := (k_od_p hod hk.1).1
                have od01 := (k_od_p hod hk.1).2
                have xa : (x = 0 → g_ahead (p_T A cnt D) a (a + N') fl O' sh x = g_fill (p_T A cnt D) a (a + N') fl O' sh) ∧ (¬ x = 0 → g_ahead (p_T A cnt D) a (a + N') fl O' sh x = 0) := by
                  unfold g_ahead
                  exact ⟨fun z => if_pos z, fun z => if_neg z⟩
                refine ih (k + 1) (a + N') (fl + O') (sh + g_lines (p_T A cnt D) a (a + N') fl O' sh) (g_ahead (p_T A cnt D) a (a + N') fl O' sh x) (K + cf) β1 Mg (by omega) ⟨by omega, by omega⟩ ⟨by omega, by omega⟩ nx ⟨ax.1, by omega⟩ ?_ ⟨by omega, by omega⟩ (by omega) (k_env_fs env fsg) ⟨?_, ?_, ?_, fun z => ?_, ?_⟩ ?_ ?_ (fun j j0 j1 => ?_) (fun M' β' fs' res' => ?_) u8 u9 u10 u11 _ _ _ _
                · by_cases x0 : x = 0
                  · have := hpar.1 x0
                    rw [xa.1 x0]; omega
                  · have : ¬ k_od od k = 0 := fun z => x0 (hpar.2 z)
                    rw [xa.2 x0]; omega
                · rw [eg, qU_k (by decide), ef, qU_k (by decide), ee, qU_k (by decide), ed, qU_k (by decide), ec, qU_k (by decide), eb, qU_k (by decide), ea, qU_s]
                · rw [eg, qU_k (by decide), ef, qU_k (by decide), ee, qU_k (by decide), ed, qU_k (by decide), ec, qU_k (by decide), eb, qU_s]
                · rw [eg, qU_k (by decide), ef, qU_k (by decide), ee, qU_k (by decide), ed, qU_k (by decide), ec, qU_s]
                · rw [eg, qU_k (by decide), ef, qU_k (by decide), ee, qU_k (by decide), ed, qU_s, if_neg (by omega)]
                  by_cases x0 : x = 0
                  · rw [xa.1 x0]
                  · exact absurd (xa.2 x0) z
                · rw [eg, qU_s]
                · rw [eg, qU_k (by decide), ef, qU_k (by decide), ee, qU_s, hnn]
                · rw [eg, qU_k (by decide), ef, qU_s]
                · rw [Og _ _ _ (by omega), Og _ _ _ (by omega)]
                  by_cases e : j = k
                  · subst e; rw [v935, v945]; omega
                  · rw [fs5 _ _ _ (by omega) (by omega) (by omega), fs5 _ _ _ (by omega) (by omega) (by omega)]; exact rg j j0 (by omega)
                · rw [show k + 1 - 1 = k by omega]
                  have fs6 : k_fs nc k M M' := k_fs_t fsg fs' (by omega)
                  have pos6 : k_pos q k a fl sh x K M' := by
                    refine k_pos_fs (k' := k + 1) (M := Mg) ?_ fs' (by omega)
                    exact ⟨by rw [Og _ _ _ (by omega)]; exact pos5.1, by rw [Og _ _ _ (by omega)]; exact pos5.2.1, by rw [Og _ _ _ (by omega)]; exact pos5.2.2.1, by rw [Og _ _ _ (by omega)]; exact pos5.2.2.2.1, by rw [Og _ _ _ (by omega)]; exact pos5.2.2.2.2⟩
                  have v936 : M' 93 (q 93) k = N' := by rw [fs' _ _ _ (by omega) (by omega) (by omega), Og _ _ _ (by omega)]; exact v935
                  have v946 : M' 94 (q 94) k = O' := by rw [fs' _ _ _ (by omega) (by omega) (by omega), Og _ _ _ (by omega)]; exact v945
                  by_cases better : K + cf + g_V (p_T A cnt D) g_I (a + N') (fl + O') (sh + g_lines (p_T A cnt D) a (a + N') fl O' sh) (g_ahead (p_T A cnt D) a (a + N') fl O' sh x) < β1
                  · obtain ⟨r1, r2, r3⟩ := res'.1 better
                    refine NEXT M' β' fs6 pos6 v936 v946 (yesT β' M' hc (by rw [eval, r1]; omega) (by omega) (fun j j0 j1 => ?_) ?_ r3) (by omega)
                    · rw [r2 j j0 (by omega), Og _ _ _ (by omega), Og _ _ _ (by omega), fs5 _ _ _ (by omega) (by omega) (by omega), fs5 _ _ _ (by omega) (by omega) (by omega)]
                    · rw [r2 k (by omega) (by omega), Og _ _ _ (by omega), Og _ _ _ (by omega), v935, v945]
                  · obtain ⟨r1, r2⟩ := res'.2 better
                    rw [r1]
                    refine NEXT M' β1 fs6 pos6 v936 v946 (noT (fun _ => by rw [eval]; omega) M' (fun s => ?_)) hβ1
                    rw [r2 s, Og _ _ _ (by omega)]
                    exact hC5 s
            · have := hc.2.1.2.2
              rw [e1] at this
              omega
        intro u8 u9 u10 u11 u22 u23 u24 u25
        refine w204_118 hS ⟨fun q0 => absurd q0 (by omega), fun _ => ⟨⟨by omega, by omega⟩, ?_⟩⟩
        rw [v94]
        refine ⟨⟨by omega, by omega⟩, ⟨by omega, by omega⟩, fun M2 f2 => ⟨⟨by omega, by omega⟩, ?_⟩⟩
        have w94 : M2 94 (q 94) k = O - 1 := by rw [f2, qU_s]
        have O2 : ∀ (a : Nat) (o s : Int), ¬ (a = 94 ∧ o = q 94 ∧ s = k) → M2 a o s = M1 a o s := fun a o s z => by rw [f2]; unfold qU; rw [if_neg z]
        have fs2 : k_fs nc k M1 M2 := fun a o s q1 q2 q3 => O2 a o s (by omega)
        have pos2 : k_pos q k a fl sh x K M2 := ⟨by rw [O2 _ _ _ (by omega)]; exact pos1.1, by rw [O2 _ _ _ (by omega)]; exact pos1.2.1, by rw [O2 _ _ _ (by omega)]; exact pos1.2.2.1, by rw [O2 _ _ _ (by omega)]; exact pos1.2.2.2.1, by rw [O2 _ _ _ (by omega)]; exact pos1.2.2.2.2⟩
        rw [w94]
        refine ⟨fun neg => ⟨⟨by omega, by omega⟩, fun M3 f3 => ⟨⟨by omega, by omega⟩, ?_⟩⟩, fun nn => cand N (O - 1) M2 (Or.inl ⟨rfl, rfl⟩) ⟨by omega, by omega⟩ (k_fs_t fs1 fs2 (Int.le_refl _)) pos2 (by rw [O2 _ _ _ (by omega)]; exact v93) w94 (fun s => O2 _ _ _ (by omega)) _ _ _ _ _ _ _ _⟩
        have O3 : ∀ (a : Nat) (o s : Int), ¬ (a = 94 ∧ o = q 94 ∧ s = k) → M3 a o s = M1 a o s := fun a o s z => by rw [f3]; unfold qU; rw [if_neg z]; exact O2 a o s z
        have e3 : M3 93 (q 93) k = N := by rw [O3 _ _ _ (by omega)]; exact v93
        rw [e3]
        refine ⟨⟨by omega, by omega⟩, ⟨by omega, by omega⟩, fun M4 f4 => ?_⟩
        have O4 : ∀ (a : Nat) (o s : Int), ¬ (a = 94 ∧ o = q 94 ∧ s = k) → ¬ (a = 93 ∧ o = q 93 ∧ s = k) → M4 a o s = M1 a o s := fun a o s z1 z2 => by rw [f4]; unfold qU; rw [if_neg z2]; exact O3 a o s z1
        have fs4 : k_fs nc k M1 M4 := fun a o s q1 q2 q3 => O4 a o s (by omega) (by omega)
        exact cand (N - 1) 2 M4 (Or.inr ⟨rfl, by omega, rfl⟩) ⟨by omega, by omega⟩ (k_fs_t fs1 fs4 (Int.le_refl _)) ⟨by rw [O4 _ _ _ (by omega) (by omega)]; exact pos1.1, by rw [O4 _ _ _ (by omega) (by omega)]; exact pos1.2.1, by rw [O4 _ _ _ (by omega) (by omega)]; exact pos1.2.2.1, by rw [O4 _ _ _ (by omega) (by omega)]; exact pos1.2.2.2.1, by rw [O4 _ _ _ (by omega) (by omega)]; exact pos1.2.2.2.2⟩ (by rw [f4, qU_s]) (by rw [f4, qU_k (by decide), f3, qU_s]) (fun s => O4 _ _ _ (by omega) (by omega)) _ _ _ _ _ _ _ _
    refine inner (4 * (if p_SR A cnt - a < D then p_SR A cnt - a else D) + 3).toNat _ 3 β M (by split <;> omega) ⟨by split <;> omega, Int.le_refl _⟩ ⟨by omega, by omega⟩ (fun _ _ _ _ _ _ => rfl) pos n0 o0 (Or.inl ⟨rfl, fun _ => rfl, fun b m hc hp => ?_⟩) (Int.le_refl _)
    exfalso
    have h1 := hc.1
    have h2 := hc.2.1
    have h3 := hc.2.2.1
    have nums := g_nums hT hat ⟨h1.1, h1.2⟩ ⟨h2.1, h2.2.2⟩
    rw [T8.1] at h1
    rw [T8.2.1] at h3
    have hh : b - a ≤ g_high (p_T A cnt D) a b fl m := by
      have hb := nums.2.1.1
      have h4 := hT.2.2.2.2.2.2.2.2.1 fl (fl + m) (by have := hat.2.1; omega) (by omega) (by have := g_tab_at hT (a := b) ⟨by omega, by rw [T8.1]; omega⟩; omega)
      unfold g_high
      omega
    unfold k_pc at hp
    split at hp <;> omega
/-- search: the least cost, the best way -/
theorem L204 {a fl sh x bb : Int} {u : Nat} {f : Int → qH → qM → Prop} {M : qM} (hu : k_h u h) (hod : od = 0 ∨ od = 1) (ha : 0 ≤ a ∧ a < p_SR A cnt) (hat : g_at (p_T A cnt D) a fl sh) (hx : 0 ≤ x ∧ x ≤ 15) (hpar : x = 0 ↔ k_od od 0 = 0) (hbb : x ≠ 0 → bb = if x = 15 then 0 else x) (env : k_env A cnt c D sn M)
    (H : ∀ h' M', k_h (u + 7) h' → (∀ (b : Nat) (o s : Int), ¬ (89 ≤ b ∧ b ≤ 95) → ¬ (b = 76 ∧ o = 0 ∧ 29 ≤ s ∧ s ≤ 32) → ¬ (b = 97 ∧ o = nc) → M' b o s = M b o s) → (g_V (p_T A cnt D) g_I a fl sh x < g_I → k_pa (p_T A cnt D) (M' 97 nc) (p_SR A cnt - a).toNat 0 a fl sh x) → f (if g_V (p_T A cnt D) g_I a fl sh x < g_I then g_V (p_T A cnt D) g_I a fl sh x else -1) h' M') : e204 (d + 4) h sn nc c a fl sh bb od M f := by
  obtain ⟨hch, hss, hfl, hcn⟩ := id env
  obtain ⟨hA, hD, ⟨m2, m19⟩, hr, hi, hw⟩ := id hch
  have s16 := hA.2.2.2.2
  have c3 := hA.1
  have K1 := k_h_new (k := 89) (j := 1) (w := 24) hu (by decide) (Nat.le_refl _) (by omega)
  have K2 := k_h_new (k := 90) (j := 1) (w := 24) K1 (by decide) (Nat.le_refl _) (by omega)
  have K3 := k_h_new (k := 91) (j := 1) (w := 24) K2 (by decide) (Nat.le_refl _) (by omega)
  have K4 := k_h_new (k := 92) (j := 1) (w := 24) K3 (by decide) (Nat.le_refl _) (by omega)
  have K5 := k_h_new (k := 93) (j := 1) (w := 24) K4 (by decide) (Nat.le_refl _) (by omega)
  have K6 := k_h_new (k := 94) (j := 1) (w := 24) K5 (by decide) (Nat.le_refl _) (by omega)
  have K7 := k_h_new (k := 95) (j := 1) (w := 24) K6 (by decide) (Nat.le_refl _) (by omega)
  refine w204 hu.1 ⟨hu.2.1 _, fun n1 e1 M1 f1 z1 g1 => ?_⟩
  subst g1
  refine ⟨K1.2.1 _, fun n2 e2 M2 f2 z2 g2 => ?_⟩
  subst g2
  refine w204_12 K2.1 ⟨K2.2.1 _, fun n3 e3 M3 f3 z3 g3 => ?_⟩
  subst g3
  refine ⟨K3.2.1 _, fun n4 e4 M4 f4 z4 g4 => ?_⟩
  subst g4
  refine w204_24 K4.1 ⟨K4.2.1 _, fun n5 e5 M5 f5 z5 g5 => ?_⟩
  subst g5
  refine ⟨K5.2.1 _, fun n6 e6 M6 f6 z6 g6 => ?_⟩
  subst g6
  refine w204_36 K6.1 ⟨K6.2.1 _, fun n7 e7 M7 f7 z7 g7 => ?_⟩
  subst g7
  have O7 : ∀ (a : Nat) (o s : Int), ¬ (89 ≤ a ∧ a ≤ 95) → M7 a o s = M a o s := fun a o s z => by
    rw [f7, lNm_o (fun y => z (by omega)), f6, lNm_o (fun y => z (by omega)), f5, lNm_o (fun y => z (by omega)), f4, lNm_o (fun y => z (by omega)), f3, lNm_o (fun y => z (by omega)), f2, lNm_o (fun y => z (by omega)), f1, lNm_o (fun y => z (by omega))]
  refine w204_42 K7.1 (fun M8 f8 M9 f9 Ma fa Mb fb => ?_)
  have Ob : ∀ (a : Nat) (o s : Int), ¬ (89 ≤ a ∧ a ≤ 95) → Mb a o s = M a o s := fun a o s z => by
    rw [fb, qU_k (by omega), fa, qU_k (by omega), f9, qU_k (by omega), f8, qU_k (by omega), O7 a o s z]
  rw [Ob 76 0 (19 + c) (by omega), Ob 76 0 2 (by omega), m19, m2]
  refine ⟨⟨by omega, by omega⟩, ⟨by omega, by omega⟩, ⟨by omega, by omega⟩, fun _ => ⟨⟨by omega, by omega⟩, ⟨by omega, by omega⟩, by omega, by omega⟩, fun nn hnn Mc fc Md fd => ?_⟩
  have Od : ∀ (a : Nat) (o s : Int), ¬ (89 ≤ a ∧ a ≤ 95) → Md a o s = M a o s := fun a o s z => by
    rw [fd, qU_k (by omega), fc, qU_k (by omega), Ob a o s z]
  have fsd : ∀ (b : Nat) (o s : Int), ¬ (89 ≤ b ∧ b ≤ 95) → Md b o s = M b o s := Od
  have envd : k_env A cnt c D sn Md := ⟨k_ch_cg hch (fun s => Od _ _ _ (by omega)) (fun s => Od _ _ _ (by omega)) (fun s => Od _ _ _ (by omega)) (Od _ _ _ (by omega)) (Od _ _ _ (by omega)), fun r a b => by rw [Od _ _ _ (by omega)]; exact hss r a b, fun i w a b e g k3 => by rw [Od _ _ _ (by omega)]; exact hfl i w a b e g k3, by rw [Od _ _ _ (by omega)]; exact hcn.1, by rw [Od _ _ _ (by omega)]; exact hcn.2⟩
  have gI : g_I = 268435456 := rfl
  have ex := k_exp (d := d) (h := lNh (lNh (lNh (lNh (lNh (lNh (lNh h 89 24) 90 24) 91 24) 92 24) 93 24) 94 24) 95 24) (F := f) (sn := sn) (nc := nc) (od := od) (q := fun k => if k = 89 then n1 else if k = 90 then n2 else if k = 91 then n3 else if k = 92 then n4 else if k = 93 then n5 else if k = 94 then n6 else n7) K7.1 hod (p_SR A cnt - a).toNat 0 a fl sh x 0 g_I Md (by omega) ⟨by omega, by omega⟩ ha hat hx hpar ⟨by omega, by omega⟩ (Int.le_refl _) envd ⟨?_, ?_, ?_, fun x0 => ?_, ?_⟩ ?_ ?_ (fun j a b => absurd a (by omega)) (fun M' β' fs' res => ?_)
  · exact ex _ _ _ _ _ _ _ _
  · show Md 89 n1 0 = a
    rw [fd, qU_k (by decide), fc, qU_k (by decide), fb, qU_k (by decide), fa, qU_k (by decide), f9, qU_k (by decide), f8, qU_s]
  · show Md 90 n2 0 = fl
    rw [fd, qU_k (by decide), fc, qU_k (by decide), fb, qU_k (by decide), fa, qU_k (by decide), f9, qU_s]
  · show Md 91 n3 0 = sh
    rw [fd, qU_k (by decide), fc, qU_k (by decide), fb, qU_k (by decide), fa, qU_s]
  · show Md 92 n4 0 = _
    rw [fd, qU_k (by decide), fc, qU_k (by decide), fb, qU_s]
    exact hbb x0
  · show Md 95 n7 0 = 0
    rw [fd, qU_k (by decide), fc, qU_k (by decide), fb, qU_k (by decide), fa, qU_k (by decide), f9, qU_k (by decide), f8, qU_k (by decide), f7, lNm_s]
  · show Md 93 n5 0 = _
    rw [fd, qU_k (by decide), fc, qU_s, hnn]
  · show Md 94 n6 0 = _
    rw [fd, qU_s]
  · intro u8 u9 u10 u11 u22 u23 u24 u25
    refine w204_118 K7.1 ⟨fun _ r hr => ?_, fun z => absurd z (by omega)⟩
    have fr : ∀ (b : Nat) (o s : Int), ¬ (89 ≤ b ∧ b ≤ 95) → ¬ (b = 76 ∧ o = 0 ∧ 29 ≤ s ∧ s ≤ 32) → ¬ (b = 97 ∧ o = nc) → M' b o s = M b o s := fun b o s q1 q2 q3 => by
      rw [fs' b o s (fun y => q1 ⟨y.1, y.2.1⟩) q2 q3, Od b o s q1]
    have T8 := p_T_8 (A := A) (cnt := cnt) (D := D)
    by_cases lt : g_V (p_T A cnt D) g_I a fl sh x < g_I
    · obtain ⟨r1, r2, r3⟩ := res.1 (by omega)
      have HH := H _ M' K7 fr (fun _ => r3)
      rw [if_pos lt] at HH
      rw [if_neg (by omega)] at hr
      rw [hr, r1, Int.zero_add]
      exact HH
    · obtain ⟨r1, r2⟩ := res.2 (by omega)
      have HH := H _ M' K7 fr (fun z => absurd z lt)
      rw [if_neg lt] at HH
      rw [if_pos (by omega)] at hr
      rw [hr]
      exact HH
end
