/-! ===== a round of the law ===== -/
def k_cm (A : pA) (cnt : Int) (w : c_W) (c : Int) (M : qM) : Prop := (cnt ≤ 0 → M 76 0 (10 + c) = -1 ∧ M 76 0 (13 + c) = -1 ∧ M 76 0 (16 + c) = 0 ∧ M 76 0 (19 + c) = 0 ∧ M 76 0 (22 + c) = 0 ∧ M 76 0 (25 + c) = 0) ∧ (0 < cnt → M 76 0 (19 + c) = p_SR A cnt ∧ k_rw A c (p_SR A cnt) M ∧ k_fz A cnt c (p_SF A cnt) (p_SN A cnt) M ∧ k_Pg (w_P w) (w_ct w) (w_fi w - 1) c M ∧ M 76 0 (10 + c) = w_fi w ∧ M 76 0 (13 + c) = w_fi w + w_ct w - 1 ∧ M 76 0 (16 + c) = w_co w)
theorem k_Pg_eq {P P' : pT} {ct p0 c : Int} {M : qM} (h : g_eq P P' ct) (hp : k_Pg P' ct p0 c M) : k_Pg P ct p0 c M := fun k k0 k1 => by
  have b := g_eq_bf h (k := k) ⟨k0, by omega⟩
  have p := hp k k0 k1
  rw [b.1, b.2.1, b.2.2.1, h 0 k (by decide) k0 k1, h 1 k (by decide) k0 k1, h 2 k (by decide) k0 k1, h 3 k (by decide) k0 k1, h 4 k (by decide) k0 k1] at p
  exact p
theorem k_cm_fr {A : pA} {cnt : Int} {w : c_W} {c : Int} {M M' : qM} (hc : 0 ≤ c ∧ c < 3) (hA : 0 < cnt → p_okB A cnt ∧ p_SR A cnt ≤ 16 ∧ (∃ D, g_pages (p_T A cnt D) (w_P w) (w_ct w) (w_wr w))) (h : k_cm A cnt w c M) (f71 : ∀ s, 20 * c ≤ s → s < 20 * c + 20 → M' 71 0 s = M 71 0 s) (f72 : ∀ s, 4 * c ≤ s → s < 4 * c + 4 → M' 72 0 s = M 72 0 s) (f73 : ∀ s, 12 * c ≤ s → s < 12 * c + 12 → M' 73 0 s = M 73 0 s) (f76 : ∀ s, (s = 10 + c ∨ s = 13 + c ∨ s = 16 + c ∨ s = 19 + c ∨ s = 22 + c ∨ s = 25 + c) → M' 76 0 s = M 76 0 s) (f74 : ∀ k p, 0 < cnt → (k = 74 ∨ k = 75) → w_fi w ≤ p → p < w_fi w + w_ct w → M' k 0 p = M k 0 p) : k_cm A cnt w c M' := by
  refine ⟨fun q => ?_, fun q => ?_⟩
  · have := h.1 q
    rw [f76 _ (by omega), f76 _ (by omega), f76 _ (by omega), f76 _ (by omega), f76 _ (by omega), f76 _ (by omega)]
    exact this
  · obtain ⟨h1, h2, h3, h4, h5, h6, h7⟩ := h.2 q
    obtain ⟨ok, s16, D, pg⟩ := hA q
    rw [f76 _ (by omega), f76 _ (by omega), f76 _ (by omega), f76 _ (by omega)]
    refine ⟨h1, fun r a b => by rw [f71 _ (by omega) (by omega)]; exact h2 r a b, ⟨fun i w a b e g k3 l => ?_, fun i w t a b e g k3 t0 t1 l => ?_, by rw [f76 _ (by omega)]; exact h3.2.2.1, by rw [f76 _ (by omega)]; exact h3.2.2.2⟩, fun k k0 k1 => ?_, h5, h6, h7⟩
    · have ne := p_FB_end ok.1 (i := i) (w := w) ⟨a, b⟩ ⟨e, by omega⟩
      have := ok.1.2.2.1
      rw [f72 _ (by omega) (by omega)]; exact h3.1 i w a b e g k3 l
    · have ne := p_FB_end ok.1 (i := i) (w := w) ⟨a, b⟩ ⟨e, by omega⟩
      have := ok.1.2.2.2.1
      rw [f73 _ (by omega) (by omega)]; exact h3.2.1 i w t a b e g k3 t0 t1 l
    · have p := h4 k k0 k1
      have up := g_pages_up pg k k0 k1
      have T8 := p_T_8 (A := A) (cnt := cnt) (D := D)
      rw [T8.1] at up
      refine ⟨⟨by rw [f74 74 _ q (by decide) (by omega) (by omega)]; exact p.1.1, by rw [f74 75 _ q (by decide) (by omega) (by omega)]; exact p.1.2⟩, fun r r0 r1 => ?_⟩
      have at0 := (pg.2.2.2.2.1 k k0 (by omega)).1
      rw [f71 _ (by omega) (by omega)]
      exact p.2 r r0 r1
/-- the other pages -/
def k_kd (B : pT) (W : Int → c_W) (p0 c : Int) (M : qM) : Prop := ∀ p, 1 ≤ p → p ≤ c_la W p0 c.toNat → (p ≤ p0 ∧ M 74 0 p = 3 ∧ M 75 0 p = 0) ∨ (∃ c', (0 ≤ c' ∧ c' < c) ∧ 0 < B 0 c' ∧ w_fi (W c') ≤ p ∧ p < w_fi (W c') + w_ct (W c')) ∨ (p0 < p ∧ (M 74 0 p = 4 ∧ M 75 0 p = 0) ∧ ∀ c', 0 ≤ c' → c' < c → 0 < B 0 c' → ¬ (w_fi (W c') ≤ p ∧ p < w_fi (W c') + w_ct (W c')))
/-- the round in the law's arrays -/
def k_edm (B : pT) (R : c_R) (p0 : Int) (M : qM) : Prop := (∀ c, 0 ≤ c → c < 3 → k_cm (r_A B R c) (B 0 c) (r_W R c) c M) ∧ M 76 0 6 = c_la (r_W R) p0 3 ∧ k_kd B (r_W R) p0 3 M
/-- how many pages a chapter has at most -/
def k_N (B : pT) (L : Int → Int) (E : Int → Int → Int) (c : Int) : Int := if B 0 c ≤ 0 then 0 else if p_SR (c_A B L E c) (B 0 c) + 4 ≤ 19 then p_SR (c_A B L E c) (B 0 c) + 4 else 19
def k_J (B : pT) (L : Int → Int) (E : Int → Int → Int) (p0 c la : Int) : Prop := 0 ≤ la ∧ (c = 0 → la = p0) ∧ (c = 1 → la ≤ p0 + k_N B L E 0) ∧ (c = 2 → la ≤ p0 + k_N B L E 0 + 1 + k_N B L E 1) ∧ (c = 3 → la ≤ p0 + k_N B L E 0 + 1 + k_N B L E 1 + 1 + k_N B L E 2)
theorem k_N_b {B : pT} {L : Int → Int} {E : Int → Int → Int} {c : Int} (h : 0 < B 0 c → 0 ≤ p_SR (c_A B L E c) (B 0 c)) : 0 ≤ k_N B L E c ∧ k_N B L E c ≤ 19 := by
  unfold k_N
  split
  · omega
  · have := h (by omega)
    split <;> omega
theorem k_p0_4 {B : pT} {L W C : Int → Int} {E : Int → Int → Int} (hB : c_ok B) (hB2 : c_ok2 B) (hl : k_lim B) (hL : c_lines B W L C E) : (0 ≤ c_p0 B ∧ c_p0 B ≤ 4 ∧ c_p0 B % 2 = 0) ∧ (c_p0 B ≤ 2 ∨ k_N B L E 0 ≤ 10 ∨ k_N B L E 1 ≤ 10) := by
  have hD := hB.2.2.2.2.2.2.2.1
  have D0 : 0 < B 8 1 := by omega
  have e18 := k_sum18 (g := fun x => if B 1 x = 0 then (0 : Int) else 1) (fun x x0 x1 x6 => by
    show (if B 1 x = 0 then (0 : Int) else 1) = 0
    have := (hl.1 (x / 10) (by omega) (by omega)).1
    rw [if_pos (hB2 x x0 x1 (by omega)).1])
  have h18 : c_hds B = p_sum (fun it => if B 1 (k_x it) = 0 then (0 : Int) else 1) 18 := e18.symm
  have hb := p_sum_bd (g := fun it => if B 1 (k_x it) = 0 then (0 : Int) else 1) (b := 1) (n := 18) (fun k => by
    show 0 ≤ (if B 1 (k_x k) = 0 then (0 : Int) else 1) ∧ (if B 1 (k_x k) = 0 then (0 : Int) else 1) ≤ 1
    split <;> omega) (by decide)
  have nc0 : 0 ≤ c_nc B := Int.ediv_nonneg (by omega) (by omega)
  have nc3 : c_nc B ≤ 3 := by
    unfold c_nc
    have : (c_hds B + B 8 1 - 1) / B 8 1 < 4 := Int.ediv_lt_of_lt_mul D0 (by omega)
    omega
  have ep : c_p0 B = c_nc B + c_nc B % 2 := rfl
  refine ⟨by omega, ?_⟩
  by_cases q : c_p0 B ≤ 2
  · exact Or.inl q
  right
  have h17 : 17 ≤ c_hds B := by
    have : 3 ≤ (c_hds B + B 8 1 - 1) / B 8 1 := by unfold c_nc at ep nc0 nc3; omega
    have := (Int.le_ediv_iff_mul_le D0).mp this
    omega
  -- six heads in the first or in the second
  have six : ∀ c, 0 ≤ c → c < 3 → (∀ i, 0 ≤ i → i < 6 → B 1 (10 * c + i) ≠ 0) → k_N B L E c ≤ 10 := by
    intro c c0 c3 all
    have l6 := (hl.1 c c0 c3).1
    have b6 : B 0 c = 6 := by
      refine Classical.byContradiction fun z => all 5 (by decide) (by decide) ((hB2 (10 * c + 5) (by omega) (by omega) ?_).1)
      rw [show (10 * c + 5) / 10 = c by omega, show (10 * c + 5) % 10 = 5 by omega]
      omega
    have e : p_SR (c_A B L E c) (B 0 c) = p_sum (fun _ => 1) 6 := by
      rw [b6]
      refine p_sum_cg (by decide) (fun i i0 i1 => ?_)
      have a2 := (k_A (B := B) (L := L) (E := E) (c := c) (k := 2) (i := i) (w := 0) ⟨i0, by omega⟩).2.2.1 rfl
      show c_A B L E c 2 i 0 = 1
      rw [a2]
      exact ((hL (10 * c + i) (by omega) (by omega) (by rw [show (10 * c + i) / 10 = c by omega, show (10 * c + i) % 10 = i by omega]; omega)).2 (all i i0 i1)).1
    have e6 : p_sum (fun _ => 1) 6 = 6 := rfl
    unfold k_N
    rw [if_neg (by omega), e, e6, if_pos (by decide)]
    decide
  by_cases a0 : ∀ i, 0 ≤ i → i < 6 → B 1 (10 * 0 + i) ≠ 0
  · exact Or.inl (six 0 (by decide) (by decide) a0)
  by_cases a1 : ∀ i, 0 ≤ i → i < 6 → B 1 (10 * 1 + i) ≠ 0
  · exact Or.inr (six 1 (by decide) (by decide) a1)
  exfalso
  obtain ⟨i, hi⟩ := Classical.not_forall.mp a0
  obtain ⟨i', hi'⟩ := Classical.not_forall.mp a1
  simp only [Classical.not_imp, Classical.not_not] at hi hi'
  have le := p_sum_le (g := fun it => if B 1 (k_x it) = 0 then (0 : Int) else 1) (g' := fun it => if it = i ∨ it = 6 + i' then (0 : Int) else 1) (n := 18) (by decide) (fun x x0 x1 => by
    show (if B 1 (k_x x) = 0 then (0 : Int) else 1) ≤ (if x = i ∨ x = 6 + i' then (0 : Int) else 1)
    by_cases z : x = i ∨ x = 6 + i'
    · have : B 1 (k_x x) = 0 := by
        rcases z with z | z
        · rw [z, show k_x i = 10 * 0 + i by unfold k_x; omega]; exact hi.2.2
        · rw [z, show k_x (6 + i') = 10 * 1 + i' by unfold k_x; omega]; exact hi'.2.2
      rw [if_pos this, if_pos z]; decide
    · rw [if_neg z]; split <;> decide)
  have cnt : ∀ a b : Int, 0 ≤ a → a < 6 → 0 ≤ b → b < 6 → p_sum (fun it => if it = a ∨ it = 6 + b then (0 : Int) else 1) 18 = 16 := by
    intro a b a0 a1 b0 b1
    obtain ⟨a, rfl⟩ := Int.eq_ofNat_of_zero_le a0
    obtain ⟨b, rfl⟩ := Int.eq_ofNat_of_zero_le b0
    have key : ∀ a : Nat, a < 6 → ∀ b : Nat, b < 6 → p_sum (fun it => if it = (a : Int) ∨ it = 6 + (b : Int) then (0 : Int) else 1) 18 = 16 := by decide
    exact key a (by omega) b (by omega)
  rw [cnt i i' hi.1 hi.2.1 hi'.1 hi'.2.1] at le
  omega
/-- what a round changes -/
def k_fR (M M' : qM) : Prop := ∀ (k : Nat) (o s : Int), ¬ (87 ≤ k ∧ k ≤ 97) → ¬ (o = 0 ∧ ((k = 76 ∧ (s = 6 ∨ s = 9 ∨ (10 ≤ s ∧ s ≤ 27) ∨ (29 ≤ s ∧ s ≤ 32))) ∨ k = 65 ∨ k = 66 ∨ (71 ≤ k ∧ k ≤ 75))) → M' k o s = M k o s
theorem k_fc_R {c la : Int} {M M' : qM} (hc : 0 ≤ c ∧ c < 3) (h : k_fc c la M M') : k_fR M M' := fun k o s a b => h k o s a (fun z => b (by omega))
theorem k_fR_t {M M1 M2 : qM} (h : k_fR M M1) (h' : k_fR M1 M2) : k_fR M M2 := fun k o s a b => by rw [h' k o s a b, h k o s a b]
