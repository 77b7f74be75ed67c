/-! ===== isComposed, costByAll ===== -/
def p_eq (n : Int) (mc : qM → (Int → qM → Prop) → Prop) (v : Int) (M : qM) : Prop := mc M (fun b N => b = v ∧ c_Rel n N)
def c_scb2 (k : Nat) (s : Int) : Bool := c_scb k s || (Nat.ble 94 k && Nat.ble k 98)
def c_X2 (M : qM) : qM := fun k m s => bif c_scb2 k s then 0 else M k m s
def c_fr2 (M M' : qM) : Prop := ∀ (k : Nat) (m s : Int), ¬ c_scr k s → ¬ (94 ≤ k ∧ k ≤ 98) → M' k m s = M k m s
theorem c_fr2_X {M M' : qM} (h : c_fr2 M M') : c_X2 M' = c_X2 M := by
  funext k m s
  unfold c_X2
  by_cases q : c_scr k s
  · have e : c_scb2 k s = true := by unfold c_scb2; rw [c_scb_of q]; rfl
    rw [e]; rfl
  · by_cases q2 : 94 ≤ k ∧ k ≤ 98
    · have a : Nat.ble 94 k = true := Nat.ble_eq_true_of_le q2.1
      have b : Nat.ble k 98 = true := Nat.ble_eq_true_of_le q2.2
      have e : c_scb2 k s = true := by unfold c_scb2; rw [a, b]; cases c_scb k s <;> rfl
      rw [e]; rfl
    · rw [h k m s q q2]
theorem c_cg2 {P : qM → Prop} (hP : ∀ M, P (c_X2 M) = P M) {M M' : qM} (h : c_fr2 M M') (p : P M) : P M' := by
  rw [← hP M', c_fr2_X h, hP M]; exact p
theorem c_cpy_fr2 {B : pT} {R : c_R} {t : Int} {N M M' : qM} (f : c_fr2 M M') (h : m_cpy B R t N M) : m_cpy B R t N M' := by
  obtain ⟨a, b, c, d, e, g, i, j⟩ := h
  have o : ∀ (k : Nat) (s : Int), 118 ≤ k → k ≤ 135 → M' k 0 s = M k 0 s := fun k s h1 h2 => f k 0 s (by unfold c_scr; omega) (by omega)
  have o11 : ∀ s : Int, 73 ≤ s → s ≤ 76 → M' 11 0 s = M 11 0 s := fun s h1 h2 => f 11 0 s (by unfold c_scr; omega) (by omega)
  refine ⟨?_, fun c c0 c1 => ?_, fun x x0 x1 => ?_, fun s s0 s1 => ?_, fun y y0 y1 => ?_, fun k k0 k1 => ?_, fun k k0 k1 => ?_, fun z p h1 h2 h3 => ?_⟩
  · rw [o11 73 (by decide) (by decide), o11 74 (by decide) (by decide), o11 75 (by decide) (by decide), o11 76 (by decide) (by decide)]; exact a
  · rw [o 118 _ (by decide) (by decide), o 119 _ (by decide) (by decide)]; exact b c c0 c1
  · rw [o 120 _ (by decide) (by decide)]; exact c x x0 x1
  · rw [o 121 _ (by decide) (by decide), o 122 _ (by decide) (by decide), o 123 _ (by decide) (by decide)]; exact d s s0 s1
  · rw [o 124 _ (by decide) (by decide)]; exact e y y0 y1
  · rw [o 125 _ (by decide) (by decide)]; exact g k k0 k1
  · rw [o 126 _ (by decide) (by decide), o 127 _ (by decide) (by decide)]; exact i k k0 k1
  · rw [o (128 + z) _ (by omega) (by omega)]; exact j z p h1 h2 h3
theorem c_rl_fr2 {n : Int} {B : pT} {M M' : qM} (f : c_fr2 M M') (h : c_rl n B M) (hm : M 11 0 22 ≠ 0 → ∃ en W R L, c_mdx B en W R L M ∧ m_ed0 B R M') : c_rl n B M' := by
  obtain ⟨h1, ⟨a1, a2, a3⟩, ⟨b1, b2, b3, b4⟩, h4, h5, h6, h7⟩ := h
  refine ⟨h1, ⟨c_cg2 (P := c_bk B) (fun _ => rfl) f a1, c_cg2 (P := m_bk B) (fun _ => rfl) f a2, c_cg2 (P := c_ms B) (fun _ => rfl) f a3⟩, ⟨c_cg2 (P := c_dr) (fun _ => rfl) f b1, c_cg2 (P := c_al) (fun _ => rfl) f b2, c_cg2 (P := c_lm) (fun _ => rfl) f b3, c_cg2 (P := c_ed) (fun _ => rfl) f b4⟩, c_cg2 (P := c_ser n B) (fun _ => rfl) f h4, c_cg2 (P := c_bs B) (fun _ => rfl) f h5, ?_, ?_⟩
  · rcases h6 with h6 | ⟨Bo, Wo, Ro, Lo, e', N, q1, q2, q3, q4⟩
    · exact Or.inl (c_cg2 (P := fun M => M 10 0 9 = 0 ∧ M 11 0 73 = 0) (fun _ => rfl) f h6)
    · obtain ⟨r1, r2, r3, r4, r5, r6, r7, r8⟩ := q3
      exact Or.inr ⟨Bo, Wo, Ro, Lo, e', N, c_cg2 (P := fun M => M 10 0 9 = e' + 1) (fun _ => rfl) f q1, q2, ⟨r1, r2, r3, c_cg2 (P := c_edn Bo Ro (c_tot Bo Ro Lo) e') (fun _ => rfl) f r4, c_cpy_fr2 f r5, r6, r7, c_cg2 (P := fun M => ∀ x, 0 ≤ x → x < 30 → x % 10 < Bo 0 (x / 10) → (M 68 0 x = M 120 0 x ↔ B 7 x = Bo 7 x)) (fun _ => rfl) f r8⟩, c_cg2 (P := fun M => ∀ x, 0 ≤ x → x < 30 → x % 10 < Bo 0 (x / 10) → M 120 0 x ≤ M 68 0 x ∧ Bo 7 x ≤ M 10 0 14) (fun _ => rfl) f q4⟩
  · rcases h7 with h7 | ⟨q1, q2, _⟩
    · exact Or.inl (c_cg2 (P := fun M => M 10 0 13 = 0 ∧ M 11 0 22 = 0) (fun _ => rfl) f h7)
    · obtain ⟨en, W, R, L, q3, e0⟩ := hm (by omega)
      obtain ⟨s1, s2, s3, s4, s5, ⟨t1, t2, t3, t4, t5, t6⟩, s7⟩ := q3
      have z := c_cg2 (P := fun M => M 10 0 13 = 1 ∧ M 11 0 22 = 1) (fun _ => rfl) f ⟨q1, q2⟩
      refine Or.inr ⟨z.1, z.2, en, W, R, L, c_cg2 (P := fun M => M 10 0 8 = en + 1) (fun _ => rfl) f s1, s2, s3, c_cg2 (P := c_edn B R (c_tot B R L) en) (fun _ => rfl) f s4, c_cg2 (P := c_now B W R L) (fun _ => rfl) f s5, ⟨e0, c_cg2 (P := fun M => M 11 0 58 = c_tot B R L) (fun _ => rfl) f t2, c_cg2 (P := m_kd B (r_W R) (c_p0 B) 3) (fun _ => rfl) f t3, c_cg2 (P := fun M => ∀ p, c_lal B R < p → p ≤ c_tot B R L → M 105 0 p = 5) (fun _ => rfl) f t4, c_cg2 (P := fun M => M 11 0 71 = c_lal B R + 1) (fun _ => rfl) f t5, c_cg2 (P := fun M => ∀ y, 0 ≤ y → y < 600 → M 76 0 y = W y) (fun _ => rfl) f t6⟩, c_cg2 (P := fun M => M 2 0 9 = M 11 0 23 ∧ M 2 0 10 = M 11 0 21 ∧ (M 2 0 10 = 0 ∨ M 2 0 10 = 1)) (fun _ => rfl) f s7⟩
/-- pages that there are show that the least cost is one -/
theorem g_V_fin {T P : pT} {c cw : Int} (hT : g_tab T) (h : g_pages T P c cw) : ∀ (t : Nat) (k x : Int), cw - k ≤ t → 0 ≤ k → k ≤ cw → (0 ≤ x ∧ x ≤ 15) → g_V T g_I (g_bf P 0 k) (g_bf P 1 k) (g_bf P 2 k) x = g_V T m_I (g_bf P 0 k) (g_bf P 1 k) (g_bf P 2 k) x ∧ g_V T g_I (g_bf P 0 k) (g_bf P 1 k) (g_bf P 2 k) x ≤ 500 * (T 8 0 - g_bf P 0 k) + 100
  | t, k, x, ht, k0, k1, hx => by
    have hs := h.2.2.2.2.1 k k0 (by have := h.1; omega)
    have tR := g_tab_at hT hs.1
    have b70 := hT.1
    have hs1 := hs.1
    rcases g_V_I hT (T 8 0 - g_bf P 0 k).toNat _ _ _ x (by omega) hs hx with z | z
    · exfalso
      by_cases kw : cw ≤ k
      · have e := h.2.2.2.1 k kw (by have := h.1; omega)
        have v := g_V_end (T := T) (I := g_I) (a := g_bf P 0 k) (f := g_bf P 1 k) (n := g_bf P 2 k) (x := x) (by omega)
        have bn := (g_bN_s hT (f := g_bf P 1 k) (n := g_bf P 2 k) ⟨hs.2.1.1, by have := hs.2.1; omega⟩ ⟨by have := hs.2.2; omega, by have := hs.2.2; omega⟩).1
        have e1 : g_I = 268435456 := rfl
        omega
      · match t, ht with
        | 0, ht => omega
        | t + 1, ht =>
        obtain ⟨lt, m, hc, pg⟩ := h.2.1 k k0 (by omega)
        have nums := g_nums hT hs hc.1 ⟨hc.2.1.1, hc.2.1.2.2⟩
        have nn := nums.2.2.2.2.2 hc.2.2
        have fb := g_far_bd (T := T) (a := g_bf P 0 k) (b := P 0 k) (f := g_bf P 1 k) (m := m) (n := g_bf P 2 k) nn.2.2.2.1 hx
        have ih := g_V_fin hT h t (k + 1) (g_ahead T (g_bf P 0 k) (P 0 k) (g_bf P 1 k) m (g_bf P 2 k) x) (by omega) (by omega) (by omega) (by unfold g_ahead; split <;> omega)
        have a0 : g_bf P 0 (k + 1) = P 0 k := g_bf_s k0
        have a1 : g_bf P 1 (k + 1) = g_bf P 1 k + m := by rw [← pg.2.1]; exact g_bf_s k0
        have a2 : g_bf P 2 (k + 1) = g_bf P 2 k + g_lines T (g_bf P 0 k) (P 0 k) (g_bf P 1 k) m (g_bf P 2 k) := by rw [← pg.2.2.1]; exact g_bf_s k0
        rw [a0, a1, a2] at ih
        have vp := (g_V_p (T := T) (I := g_I) (a := g_bf P 0 k) (f := g_bf P 1 k) (n := g_bf P 2 k) (x := x) lt).2.1 (P 0 k) m hc
        have hcb := hc.1
        have e1 : g_I = 268435456 := rfl
        unfold g_val at vp
        omega
    · exact z
theorem g_V_fin0 {T P : pT} {c cw : Int} (hT : g_tab T) (h : g_pages T P c cw) : g_V T g_I 0 0 0 15 = g_V T m_I 0 0 0 15 := by
  have z := (g_V_fin hT h cw.toNat 0 15 (by omega) (by decide) (by have := h.1; omega) (by decide)).1
  have e0 : g_bf P 0 0 = 0 := if_pos (by decide)
  have e1 : g_bf P 1 0 = 0 := if_pos (by decide)
  have e2 : g_bf P 2 0 = 0 := if_pos (by decide)
  rw [e0, e1, e2] at z
  exact z
