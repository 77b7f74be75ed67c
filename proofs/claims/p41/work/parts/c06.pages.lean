/-! ===== margins of a page, of all pages, in the class ===== -/
def mg_bl (T P : pT) (k r : Int) : Int := if r = g_bf P 0 k then 0 else T 0 r - T 0 (g_bf P 0 k + 1)
def mg_pre (T P : pT) (k r : Int) : Int := mg_base T P k + (r - g_bf P 0 k) + mg_bl T P k r + mg_min (mg_bl T P k r) (P 3 k)
theorem mg_pre_s {T P : pT} {k r : Int} (hr : g_bf P 0 k ≤ r) : mg_pre T P k (r + 1) = mg_pl T P k r + 1 := by
  unfold mg_pre mg_pl mg_bl
  rw [if_neg (by omega)]
  omega
theorem mg_ok_mono {B : pT} {c N N' : Int} {s : c_Mg} (h : mg_ok B c N s) (hN : N ≤ N') : mg_ok B c N' s := mg_ok_N h (by have := h.2.1; omega)
theorem mg_C_fr {c dp pg : Int} {s : c_Mg} {M M' : qM} (h : mg_C c dp pg s M) (hf : ∀ (k : Nat) (z : Int), (k = 38 ∨ k = 39 ∨ k = 6) → M' k 0 z = M k 0 z) : mg_C c dp pg s M' := by
  obtain ⟨s1, s2, s3, s4, s5, s6⟩ := h
  exact ⟨fun y a b => by rw [hf _ _ (by omega)]; exact s1 y a b, fun i a b => by rw [hf _ _ (by omega)]; exact s2 i a b, by rw [hf _ _ (by omega)]; exact s3, by rw [hf _ _ (by omega)]; exact s4, by rw [hf _ _ (by omega)]; exact s5, by rw [hf _ _ (by omega)]; exact s6⟩
theorem c_A_there {B : pT} {L : Int → Int} {E : Int → Int → Int} {c r w : Int} (hok : p_okA (c_A B L E c) (B 0 c)) (hc : 0 ≤ c) (hr : 0 ≤ r ∧ r < p_SR (c_A B L E c) (B 0 c)) (hw : p_fr (c_A B L E c) r ≤ w ∧ w < p_to (c_A B L E c) r) : c_there B (200 * c + 20 * p_ri (c_A B L E c) r + w) ∧ (0 ≤ w ∧ w < 20) ∧ (0 ≤ p_ri (c_A B L E c) r ∧ p_ri (c_A B L E c) r < 10) := by
  have ri := p_row_in hok hr
  have n10 := hok.1
  have v := (c_A_v (B := B) (L := L) (E := E) (c := c) (i := p_ri (c_A B L E c) r) (w := 0) ⟨ri.1.1, by omega⟩).2.2.2.2.2.2
  rw [v] at ri
  generalize p_ri (c_A B L E c) r = i at *
  generalize p_fr (c_A B L E c) r = f at *
  generalize p_to (c_A B L E c) r = t at *
  unfold c_there
  rw [show (200 * c + 20 * i + w) / 20 = 10 * c + i by omega, show (200 * c + 20 * i + w) / 200 = c by omega, show (200 * c + 20 * i + w) % 20 = w by omega, show (10 * c + i) % 10 = i by omega]
  exact ⟨⟨ri.1.2, by omega⟩, ⟨by omega, by omega⟩, by omega⟩
/-- the words of a row -/
theorem mg_ws_ok {B : pT} {c dp pg w x0 : Int} {s : c_Mg} (hB : c_ok B) (hdp : 8 ≤ dp ∧ dp ≤ 14) (hx0 : 200 * c ≤ x0 ∧ 0 ≤ c) : ∀ j : Nat, (∀ i : Int, 0 ≤ i → i < j → c_there B (x0 + i) ∧ x0 + i < 200 * c + 200) → mg_ok B c (mg_ct B c x0) s → mg_ok B c (mg_ct B c (x0 + j)) (mg_ws dp pg B x0 w j s)
  | 0, _, h => by rw [show x0 + ((0 : Nat) : Int) = x0 by omega]; exact h
  | j + 1, ht, h => by
    have ih := mg_ws_ok (w := w) (pg := pg) hB hdp hx0 j (fun i a b => ht i a (by omega)) h
    have tj := ht j (by omega) (by omega)
    have cs := mg_ct_s (c := c) (y := x0 + j) (by omega) tj.1
    rw [show x0 + ((j + 1 : Nat) : Int) = x0 + j + 1 by omega, cs]
    show mg_ok B c _ (if B 4 (x0 + j) = 5 then mg_step dp pg (x0 + j) (B 5 (x0 + j)) w (mg_ws dp pg B x0 w j s) else mg_ws dp pg B x0 w j s)
    by_cases q : B 4 (x0 + j) = 5
    · rw [if_pos q]
      exact (mg_step_ok ih hdp (hB.2.2.2.1 _).1 ⟨⟨by omega, tj.2⟩, tj.1, q⟩).1
    · rw [if_neg q]; exact mg_ok_mono ih (by omega)
theorem mg_rows_ok {B : pT} {L : Int → Int} {E : Int → Int → Int} {c dp pg a : Int} {pl : Int → Int} {s : c_Mg} (hB : c_ok B) (hdp : 8 ≤ dp ∧ dp ≤ 14) (hc : 0 ≤ c) (hok : p_okA (c_A B L E c) (B 0 c)) (ha : 0 ≤ a) : ∀ j : Nat, a + j ≤ p_SR (c_A B L E c) (B 0 c) → mg_ok B c (mg_ct B c (p_xs (c_A B L E c) c a)) s → mg_ok B c (mg_ct B c (p_xs (c_A B L E c) c (a + j))) (mg_rows dp pg B (c_A B L E c) c a pl j s)
  | 0, _, h => by rw [show a + ((0 : Nat) : Int) = a by omega]; exact h
  | j + 1, hj, h => by
    have ih := mg_rows_ok (pl := pl) (pg := pg) hB hdp hc hok ha j (by omega) h
    have rr : 0 ≤ a + j ∧ a + j < p_SR (c_A B L E c) (B 0 c) := ⟨by omega, by omega⟩
    have gap := p_xs_gap (c := c) hok rr
    have ri := p_row_in hok rr
    have tw := fun w => c_A_there (w := w) hok hc rr
    have m := mg_ct_mono (B := B) (c := c) (y := p_xs (c_A B L E c) c (a + j)) (z := 200 * c + 20 * p_ri (c_A B L E c) (a + j) + p_fr (c_A B L E c) (a + j)) (by omega) gap.2.1
    have w := mg_ws_ok (pg := pg) (w := pl (a + j)) hB hdp (x0 := 200 * c + 20 * p_ri (c_A B L E c) (a + j) + p_fr (c_A B L E c) (a + j)) ⟨by omega, hc⟩ (p_to (c_A B L E c) (a + j) - p_fr (c_A B L E c) (a + j)).toNat (fun i i0 i1 => by
      have t := tw (p_fr (c_A B L E c) (a + j) + i) ⟨by omega, by omega⟩
      rw [show 200 * c + 20 * p_ri (c_A B L E c) (a + j) + p_fr (c_A B L E c) (a + j) + i = 200 * c + 20 * p_ri (c_A B L E c) (a + j) + (p_fr (c_A B L E c) (a + j) + i) by omega]
      exact ⟨t.1, by omega⟩) (mg_ok_mono ih m)
    rw [show a + ((j + 1 : Nat) : Int) = a + j + 1 by omega, p_xs_s rr.1]
    rw [show 200 * c + 20 * p_ri (c_A B L E c) (a + j) + p_fr (c_A B L E c) (a + j) + (((p_to (c_A B L E c) (a + j) - p_fr (c_A B L E c) (a + j)).toNat : Nat) : Int) = 200 * c + 20 * p_ri (c_A B L E c) (a + j) + p_to (c_A B L E c) (a + j) by omega] at w
    exact w
theorem g_pages_3 {T P : pT} {c cw : Int} (hT : g_tab T) (h : g_pages T P c cw) {k : Int} (hk : 0 ≤ k ∧ k < cw) : (0 ≤ P 3 k ∧ P 3 k ≤ 14) ∧ (1 ≤ P 4 k ∧ P 4 k ≤ 14) ∧ g_bf P 1 k ≤ P 1 k ∧ P 1 k ≤ T 8 2 ∧ g_bf P 2 k ≤ P 2 k ∧ P 2 k ≤ T 8 3 := by
  have at' := h.2.2.2.2.1 k hk.1 (by have := h.1; omega)
  obtain ⟨_, m, cn, pg⟩ := h.2.1 k hk.1 hk.2
  have nn := g_nums hT at' cn.1 ⟨cn.2.1.1, cn.2.1.2.2⟩
  have ok := nn.2.2.2.2.2 cn.2.2
  have t1 := g_tab_at hT (a := P 0 k) ⟨by have := at'.1; have := cn.1; omega, cn.1.2⟩
  obtain ⟨_, p1, p2, p3, p4⟩ := pg
  have c2 := cn.2.1
  have ln := nn.2.2.1
  have b2 := t1.2.2.1
  rw [p3, p4, p1, p2]
  exact ⟨⟨ok.2.1, ok.2.2.1⟩, ok.2.2.2.1, by omega, by omega, by omega, by omega⟩
