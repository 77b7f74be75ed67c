/-! ===== the words that wait stand in order ===== -/
def mg_inc (s : c_Mg) (b : Int) : Prop := 0 ≤ mg_n s ∧ (∀ i j, 0 ≤ i → i < j → j < mg_n s → mg_o s i < mg_o s j) ∧ ∀ i, 0 ≤ i → i < mg_n s → mg_o s i < b
theorem mg_inc_up {s : c_Mg} {b b' : Int} (h : mg_inc s b) (hb : b ≤ b') : mg_inc s b' := ⟨h.1, h.2.1, fun i a c => by have := h.2.2 i a c; omega⟩
theorem mg_inc_nw {s : c_Mg} {b y : Int} (h : mg_inc s b) (hy : b ≤ y) : mg_nw s y := fun i a c => by have := h.2.2 i a c; omega
theorem mg_step_inc {dp pg x hi w : Int} {s : c_Mg} (h : mg_inc s x) : mg_inc (mg_step dp pg x hi w s) (x + 1) := by
  unfold mg_step
  by_cases q : mg_e s ≤ b_at w (mg_e s) dp hi
  · rw [if_pos q]
    exact ⟨h.1, h.2.1, fun i a c => by have : mg_o s i < x := h.2.2 i a c; show mg_o s i < x + 1; omega⟩
  · rw [if_neg q]
    have n0 := h.1
    refine ⟨show 0 ≤ mg_n s + 1 by omega, fun i j a b c => ?_, fun i a c => ?_⟩
    · have c' : j < mg_n s + 1 := c
      show (if i = mg_n s then x else mg_o s i) < (if j = mg_n s then x else mg_o s j)
      rw [if_neg (by omega)]
      by_cases z : j = mg_n s
      · rw [if_pos z]; exact h.2.2 i a (by omega)
      · rw [if_neg z]; exact h.2.1 i j a b (by omega)
    · have c' : i < mg_n s + 1 := c
      show (if i = mg_n s then x else mg_o s i) < x + 1
      by_cases z : i = mg_n s
      · rw [if_pos z]; omega
      · rw [if_neg z]; have := h.2.2 i a (by omega); omega
theorem mg_over_inc {dp pg : Int} {V : Int → Int} {s0 : c_Mg} {b : Int} (h : mg_inc s0 b) : ∀ m : Nat, (m : Int) ≤ mg_n s0 → mg_inc (mg_over dp pg V (mg_o s0) m (mg_begin s0)) (if (m : Int) < mg_n s0 then mg_o s0 m else b) := by
  intro m
  induction m with
  | zero =>
    intro _
    exact ⟨Int.le_refl _, fun i j a b c => by have : j < 0 := c; omega, fun i a c => by have : i < 0 := c; omega⟩
  | succ m ih =>
    intro hm
    have i := ih (by omega)
    rw [if_pos (by omega)] at i
    have st := mg_step_inc (dp := dp) (pg := pg) (hi := V (mg_o s0 m)) (w := 0) i
    refine mg_inc_up st ?_
    by_cases z : ((m + 1 : Nat) : Int) < mg_n s0
    · rw [if_pos z]
      have := h.2.1 m ((m + 1 : Nat) : Int) (by omega) (by omega) z
      omega
    · rw [if_neg z]
      have := h.2.2 m (by omega) (by omega)
      omega
theorem mg_over_all {dp pg : Int} {V : Int → Int} {s0 : c_Mg} {b : Int} (h : mg_inc s0 b) : mg_inc (mg_over dp pg V (mg_o s0) (mg_n s0).toNat (mg_begin s0)) b := by
  have n0 := h.1
  have i := mg_over_inc (dp := dp) (pg := pg) (V := V) h (mg_n s0).toNat (by omega)
  rw [if_neg (by omega)] at i
  exact i
theorem mg_ws_inc {dp pg x0 w : Int} {B : pT} {s : c_Mg} (h : mg_inc s x0) : ∀ m : Nat, mg_inc (mg_ws dp pg B x0 w m s) (x0 + m) := by
  intro m
  induction m with
  | zero => rw [show x0 + ((0 : Nat) : Int) = x0 by omega]; exact h
  | succ m ih =>
    rw [show x0 + ((m + 1 : Nat) : Int) = x0 + m + 1 by omega]
    show mg_inc (if B 4 (x0 + m) = 5 then _ else _) _
    by_cases q : B 4 (x0 + (m : Int)) = 5
    · rw [if_pos q]; exact mg_step_inc ih
    · rw [if_neg q]; exact mg_inc_up ih (by omega)
theorem mg_rows_inc {dp pg c a cnt : Int} {B : pT} {A : pA} {pl : Int → Int} {s : c_Mg} (hA : p_okA A cnt) (ha : 0 ≤ a) (h : mg_inc s (p_xs A c a)) : ∀ m : Nat, a + m ≤ p_SR A cnt → mg_inc (mg_rows dp pg B A c a pl m s) (p_xs A c (a + m)) := by
  intro m
  induction m with
  | zero => intro _; rw [show a + ((0 : Nat) : Int) = a by omega]; exact h
  | succ m ih =>
    intro hm
    have i := ih (by omega)
    have rr := p_row_in hA (r := a + m) ⟨by omega, by omega⟩
    have gap := p_xs_gap (c := c) hA (r := a + m) ⟨by omega, by omega⟩
    rw [show a + ((m + 1 : Nat) : Int) = a + m + 1 by omega, p_xs_s (by omega)]
    have w := mg_ws_inc (dp := dp) (pg := pg) (B := B) (w := pl (a + m)) (mg_inc_up i gap.2.1) (p_to A (a + m) - p_fr A (a + m)).toNat
    exact mg_inc_up w (by omega)
theorem mg_pages_inc {dp fi c ct cw cnt D : Int} {B : pT} {A : pA} {P : pT} (hA : p_okB A cnt) (hD : 8 ≤ D ∧ D ≤ 14) (pg : g_pages (p_T A cnt D) P ct cw) : ∀ m : Nat, (m : Int) ≤ cw → mg_inc (mg_pages dp B A (p_T A cnt D) P fi c m) (p_xs A c (g_bf P 0 m)) := by
  intro m
  induction m with
  | zero =>
    intro _
    exact ⟨Int.le_refl _, fun i j a b c => by have : j < 0 := c; omega, fun i a c => by have : i < 0 := c; omega⟩
  | succ m ih =>
    intro hm
    have i := ih (by omega)
    have up := g_pages_up pg m (by omega) (by have := pg.1; omega)
    have T8 := p_T_8 (A := A) (cnt := cnt) (D := D)
    rw [T8.1] at up
    have at0 := (pg.2.2.2.2.1 m (by omega) (by have := pg.1; omega)).1
    have o := mg_over_all (dp := dp) (pg := fi + m) (V := B 5) i
    have r := mg_rows_inc (dp := dp) (pg := fi + m) (B := B) (pl := mg_pl (p_T A cnt D) P m) hA.1 at0.1 o (P 0 m - g_bf P 0 m).toNat (by omega)
    have e : g_bf P 0 (((m + 1 : Nat) : Int)) = P 0 m := by
      rw [show ((m + 1 : Nat) : Int) = (m : Int) + 1 by omega]
      exact k_bf_s (i := 0) rfl (by omega)
    rw [show g_bf P 0 m + (((P 0 m - g_bf P 0 m).toNat : Nat) : Int) = P 0 m by omega] at r
    rw [e]
    exact r
