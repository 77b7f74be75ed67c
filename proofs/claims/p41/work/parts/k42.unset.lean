/-! ===== what waits, what has not been seen: it has no margin ===== -/
def mg_m1 (s : c_Mg) (b : Int) : Prop := (∀ y, b ≤ y → mg_p s y = -1) ∧ ∀ i, 0 ≤ i → i < mg_n s → mg_p s (mg_o s i) = -1
theorem mg_m1_up {s : c_Mg} {b b' : Int} (h : mg_m1 s b) (hb : b ≤ b') : mg_m1 s b' := ⟨fun y a => h.1 y (by omega), h.2⟩
/-- one step; x has no margin yet, what waits is ahead of x -/
theorem mg_step_m1 {dp pg x hi w : Int} {s : c_Mg} (hi' : mg_inc s x) (h2 : ∀ i, 0 ≤ i → i < mg_n s → mg_p s (mg_o s i) = -1) (hx : mg_p s x = -1) : (∀ i, 0 ≤ i → i < mg_n (mg_step dp pg x hi w s) → mg_p (mg_step dp pg x hi w s) (mg_o (mg_step dp pg x hi w s) i) = -1) ∧ ∀ y, y ≠ x → mg_p (mg_step dp pg x hi w s) y = mg_p s y := by
  unfold mg_step
  by_cases q : mg_e s ≤ b_at w (mg_e s) dp hi
  · rw [if_pos q]
    refine ⟨fun i a c => ?_, fun y hy => ?_⟩
    · have c' : i < mg_n s := c
      have lt := hi'.2.2 i a c'
      show (if mg_o s i = x then _ else mg_p s (mg_o s i)) = -1
      rw [if_neg (by omega)]
      exact h2 i a c'
    · show (if y = x then _ else mg_p s y) = mg_p s y
      rw [if_neg hy]
  · rw [if_neg q]
    refine ⟨fun i a c => ?_, fun y _ => rfl⟩
    have c' : i < mg_n s + 1 := c
    show mg_p s (if i = mg_n s then x else mg_o s i) = -1
    by_cases z : i = mg_n s
    · rw [if_pos z]; exact hx
    · rw [if_neg z]; exact h2 i a (by omega)
theorem mg_over_m1 {dp pg : Int} {V : Int → Int} {s0 : c_Mg} {b : Int} (hi : mg_inc s0 b) (h : mg_m1 s0 b) : ∀ m : Nat, (m : Int) ≤ mg_n s0 → (∀ y, b ≤ y → mg_p (mg_over dp pg V (mg_o s0) m (mg_begin s0)) y = -1) ∧ (∀ i, 0 ≤ i → i < mg_n (mg_over dp pg V (mg_o s0) m (mg_begin s0)) → mg_p (mg_over dp pg V (mg_o s0) m (mg_begin s0)) (mg_o (mg_over dp pg V (mg_o s0) m (mg_begin s0)) i) = -1) ∧ ∀ i, (m : Int) ≤ i → i < mg_n s0 → mg_p (mg_over dp pg V (mg_o s0) m (mg_begin s0)) (mg_o s0 i) = -1 := by
  intro m
  induction m with
  | zero => intro _; exact ⟨fun y a => h.1 y a, fun i a c => by have : i < 0 := c; omega, fun i a c => h.2 i (by omega) c⟩
  | succ m ih =>
    intro hm
    obtain ⟨i1, i2, i3⟩ := ih (by omega)
    have inc := mg_over_inc (dp := dp) (pg := pg) (V := V) hi m (by omega)
    rw [if_pos (by omega)] at inc
    have st := mg_step_m1 (dp := dp) (pg := pg) (hi := V (mg_o s0 m)) (w := 0) inc i2 (i3 m (by omega) (by omega))
    have xb := hi.2.2 m (by omega) (by omega)
    refine ⟨fun y hy => (st.2 y (by omega)).trans (i1 y hy), st.1, fun i a c => ?_⟩
    have lt := hi.2.1 m i (by omega) (by omega) c
    exact (st.2 _ (by omega)).trans (i3 i (by omega) c)
theorem mg_over_m1_all {dp pg : Int} {V : Int → Int} {s0 : c_Mg} {b : Int} (hi : mg_inc s0 b) (h : mg_m1 s0 b) : mg_m1 (mg_over dp pg V (mg_o s0) (mg_n s0).toNat (mg_begin s0)) b := by
  have n0 := hi.1
  have i := mg_over_m1 (dp := dp) (pg := pg) (V := V) hi h (mg_n s0).toNat (by omega)
  exact ⟨i.1, i.2.1⟩
theorem mg_ws_m1 {dp pg x0 w : Int} {B : pT} {s : c_Mg} (hi : mg_inc s x0) (h : mg_m1 s x0) : ∀ m : Nat, mg_m1 (mg_ws dp pg B x0 w m s) (x0 + m) := by
  intro m
  induction m with
  | zero => rw [show x0 + ((0 : Nat) : Int) = x0 by omega]; exact h
  | succ m ih =>
    rw [show x0 + ((m + 1 : Nat) : Int) = x0 + m + 1 by omega]
    have inc := mg_ws_inc (dp := dp) (pg := pg) (B := B) (w := w) hi m
    show mg_m1 (if B 4 (x0 + m) = 5 then _ else _) _
    by_cases q : B 4 (x0 + (m : Int)) = 5
    · rw [if_pos q]
      have st := mg_step_m1 (dp := dp) (pg := pg) (hi := B 5 (x0 + m)) (w := w) inc ih.2 (ih.1 _ (Int.le_refl _))
      exact ⟨fun y hy => (st.2 y (by omega)).trans (ih.1 y (by omega)), st.1⟩
    · rw [if_neg q]; exact mg_m1_up ih (by omega)
theorem mg_rows_m1 {dp pg c a cnt : Int} {B : pT} {A : pA} {pl : Int → Int} {s : c_Mg} (hA : p_okA A cnt) (ha : 0 ≤ a) (hi : mg_inc s (p_xs A c a)) (h : mg_m1 s (p_xs A c a)) : ∀ m : Nat, a + m ≤ p_SR A cnt → mg_m1 (mg_rows dp pg B A c a pl m s) (p_xs A c (a + m)) := by
  intro m
  induction m with
  | zero => intro _; rw [show a + ((0 : Nat) : Int) = a by omega]; exact h
  | succ m ih =>
    intro hm
    have i := ih (by omega)
    have inc := mg_rows_inc (dp := dp) (pg := pg) (B := B) (pl := pl) hA ha hi m (by omega)
    have rr := p_row_in hA (r := a + m) ⟨by omega, by omega⟩
    have gap := p_xs_gap (c := c) hA (r := a + m) ⟨by omega, by omega⟩
    rw [show a + ((m + 1 : Nat) : Int) = a + m + 1 by omega, p_xs_s (by omega)]
    have w := mg_ws_m1 (dp := dp) (pg := pg) (B := B) (w := pl (a + m)) (mg_inc_up inc gap.2.1) (mg_m1_up i gap.2.1) (p_to A (a + m) - p_fr A (a + m)).toNat
    exact mg_m1_up w (by omega)
theorem mg_pages_m1 {dp fi c ct cw cnt D : Int} {B : pT} {A : pA} {P : pT} (hA : p_okB A cnt) (hD : 8 ≤ D ∧ D ≤ 14) (pg : g_pages (p_T A cnt D) P ct cw) : ∀ m : Nat, (m : Int) ≤ cw → mg_m1 (mg_pages dp B A (p_T A cnt D) P fi c m) (p_xs A c (g_bf P 0 m)) := by
  intro m
  induction m with
  | zero => intro _; exact ⟨fun y _ => rfl, fun i a c => by have : i < 0 := c; omega⟩
  | succ m ih =>
    intro hm
    have i := ih (by omega)
    have inc := mg_pages_inc (dp := dp) (fi := fi) (c := c) (B := B) hA hD pg m (by omega)
    have up := g_pages_up pg m (by omega) (by have := pg.1; omega)
    have T8 := p_T_8 (A := A) (cnt := cnt) (D := D)
    rw [T8.1] at up
    have at0 := (pg.2.2.2.2.1 m (by omega) (by have := pg.1; omega)).1
    have oi := mg_over_all (dp := dp) (pg := fi + m) (V := B 5) inc
    have o := mg_over_m1_all (dp := dp) (pg := fi + m) (V := B 5) inc i
    have r := mg_rows_m1 (dp := dp) (pg := fi + m) (B := B) (pl := mg_pl (p_T A cnt D) P m) hA.1 at0.1 oi o (P 0 m - g_bf P 0 m).toNat (by omega)
    have e : g_bf P 0 (((m + 1 : Nat) : Int)) = P 0 m := by
      rw [show ((m + 1 : Nat) : Int) = (m : Int) + 1 by omega]
      exact k_bf_s (i := 0) rfl (by omega)
    rw [show g_bf P 0 m + (((P 0 m - g_bf P 0 m).toNat : Nat) : Int) = P 0 m by omega] at r
    rw [e]
    exact r
