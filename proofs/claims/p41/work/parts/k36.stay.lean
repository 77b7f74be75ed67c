/-! ===== a margin that stands stays ===== -/
def mg_nw (s : c_Mg) (y : Int) : Prop := ∀ i, 0 ≤ i → i < mg_n s → mg_o s i ≠ y
def mg_st (s s' : c_Mg) (y : Int) : Prop := mg_nw s' y ∧ mg_p s' y = mg_p s y
theorem mg_st_t {s s1 s2 : c_Mg} {y : Int} (h : mg_st s s1 y) (h' : mg_st s1 s2 y) : mg_st s s2 y := ⟨h'.1, h'.2.trans h.2⟩
theorem mg_step_st {dp pg x hi w y : Int} {s : c_Mg} (h : mg_nw s y) (hx : x ≠ y) : mg_st s (mg_step dp pg x hi w s) y := by
  unfold mg_st mg_step
  by_cases q : mg_e s ≤ b_at w (mg_e s) dp hi
  · rw [if_pos q]
    refine ⟨fun i a b => h i a b, ?_⟩
    show (if y = x then _ else mg_p s y) = mg_p s y
    rw [if_neg (fun z => hx z.symm)]
  · rw [if_neg q]
    refine ⟨fun i a b => ?_, rfl⟩
    show (if i = mg_n s then x else mg_o s i) ≠ y
    have b' : i < mg_n s + 1 := b
    by_cases z : i = mg_n s
    · rw [if_pos z]; exact hx
    · rw [if_neg z]; exact h i a (by omega)
/-- placed: it stands, it does not wait -/
theorem mg_step_at {dp pg x hi w : Int} {s : c_Mg} (h : mg_nw s x) (q : mg_e s ≤ b_at w (mg_e s) dp hi) : mg_nw (mg_step dp pg x hi w s) x ∧ mg_p (mg_step dp pg x hi w s) x = 100 * pg + b_at w (mg_e s) dp hi := by
  unfold mg_step
  rw [if_pos q]
  refine ⟨fun i a b => h i a b, ?_⟩
  show (if x = x then _ else mg_p s x) = _
  rw [if_pos rfl]
theorem mg_over_st {dp pg y : Int} {V o : Int → Int} {s : c_Mg} {j0 : Nat} : ∀ m : Nat, j0 ≤ m → (∀ j : Nat, j0 ≤ j → j < m → o j ≠ y) → mg_nw (mg_over dp pg V o j0 s) y → mg_st (mg_over dp pg V o j0 s) (mg_over dp pg V o m s) y := by
  intro m
  induction m with
  | zero => intro h _ hn; rw [show j0 = 0 by omega] at hn ⊢; exact ⟨hn, rfl⟩
  | succ m ih =>
    intro h hy hn
    by_cases e : j0 = m + 1
    · subst e; exact ⟨hn, rfl⟩
    · have i := ih (by omega) (fun j a b => hy j a (by omega)) hn
      exact mg_st_t i (mg_step_st i.1 (hy m (by omega) (by omega)))
theorem mg_ws_st {dp pg x0 w y : Int} {B : pT} {s : c_Mg} {j0 : Nat} : ∀ m : Nat, j0 ≤ m → (∀ j : Nat, j0 ≤ j → j < m → x0 + j ≠ y) → mg_nw (mg_ws dp pg B x0 w j0 s) y → mg_st (mg_ws dp pg B x0 w j0 s) (mg_ws dp pg B x0 w m s) y := by
  intro m
  induction m with
  | zero => intro h _ hn; rw [show j0 = 0 by omega] at hn ⊢; exact ⟨hn, rfl⟩
  | succ m ih =>
    intro h hy hn
    by_cases e : j0 = m + 1
    · subst e; exact ⟨hn, rfl⟩
    · have i := ih (by omega) (fun j a b => hy j a (by omega)) hn
      refine mg_st_t i ?_
      show mg_st _ (if B 4 (x0 + m) = 5 then _ else _) y
      by_cases q : B 4 (x0 + (m : Int)) = 5
      · rw [if_pos q]; exact mg_step_st i.1 (hy m (by omega) (by omega))
      · rw [if_neg q]; exact ⟨i.1, rfl⟩
theorem mg_rows_st {dp pg c a y : Int} {B : pT} {A : pA} {pl : Int → Int} {s : c_Mg} {j0 : Nat} : ∀ m : Nat, j0 ≤ m → (∀ j : Nat, j0 ≤ j → j < m → ∀ v : Nat, (v : Int) < p_to A (a + j) - p_fr A (a + j) → 200 * c + 20 * p_ri A (a + j) + p_fr A (a + j) + v ≠ y) → mg_nw (mg_rows dp pg B A c a pl j0 s) y → mg_st (mg_rows dp pg B A c a pl j0 s) (mg_rows dp pg B A c a pl m s) y := by
  intro m
  induction m with
  | zero => intro h _ hn; rw [show j0 = 0 by omega] at hn ⊢; exact ⟨hn, rfl⟩
  | succ m ih =>
    intro h hy hn
    by_cases e : j0 = m + 1
    · subst e; exact ⟨hn, rfl⟩
    · have i := ih (by omega) (fun j a b => hy j a (by omega)) hn
      exact mg_st_t i (mg_ws_st (j0 := 0) _ (Nat.zero_le _) (fun j _ b => hy m (by omega) (by omega) j (by omega)) i.1)
theorem mg_pages_st {dp fi c y : Int} {B : pT} {A : pA} {T P : pT} {k0 : Nat} : ∀ m : Nat, k0 ≤ m → (∀ k : Nat, k0 ≤ k → k < m → ∀ j : Nat, (j : Int) < P 0 k - g_bf P 0 k → ∀ v : Nat, (v : Int) < p_to A (g_bf P 0 k + j) - p_fr A (g_bf P 0 k + j) → 200 * c + 20 * p_ri A (g_bf P 0 k + j) + p_fr A (g_bf P 0 k + j) + v ≠ y) → mg_nw (mg_pages dp B A T P fi c k0) y → mg_st (mg_pages dp B A T P fi c k0) (mg_pages dp B A T P fi c m) y := by
  intro m
  induction m with
  | zero => intro h _ hn; rw [show k0 = 0 by omega] at hn ⊢; exact ⟨hn, rfl⟩
  | succ m ih =>
    intro h hy hn
    by_cases e : k0 = m + 1
    · subst e; exact ⟨hn, rfl⟩
    · have i := ih (by omega) (fun k a b => hy k a (by omega)) hn
      have b0 : mg_nw (mg_begin (mg_pages dp B A T P fi c m)) y := fun j a b => by
        have b' : j < 0 := b
        omega
      have o := mg_over_st (dp := dp) (pg := fi + m) (V := B 5) (o := mg_o (mg_pages dp B A T P fi c m)) (s := mg_begin (mg_pages dp B A T P fi c m)) (j0 := 0) (mg_n (mg_pages dp B A T P fi c m)).toNat (Nat.zero_le _) (fun j _ b => i.1 j (by omega) (by omega)) b0
      have r := mg_rows_st (dp := dp) (pg := fi + m) (c := c) (a := g_bf P 0 m) (B := B) (A := A) (pl := mg_pl T P m) (s := mg_over dp (fi + m) (B 5) (mg_o (mg_pages dp B A T P fi c m)) (mg_n (mg_pages dp B A T P fi c m)).toNat (mg_begin (mg_pages dp B A T P fi c m))) (j0 := 0) (y := y) (P 0 m - g_bf P 0 m).toNat (Nat.zero_le _) (fun j _ b v hv => hy m (by omega) (by omega) j (by omega) v hv) o.1
      exact mg_st_t i ⟨r.1, r.2.trans o.2⟩
