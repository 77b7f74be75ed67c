/-! ===== a margin, once it stands, is the answer ===== -/
theorem k_xs_mono {A : pA} {cnt c a b : Int} (hA : p_okA A cnt) (h : 0 ≤ a ∧ a ≤ b ∧ b ≤ p_SR A cnt) : p_xs A c a ≤ p_xs A c b := by
  refine q_dnto (P := fun x => x ≤ p_SR A cnt → p_xs A c a ≤ p_xs A c x) (a := a) (b := b) h.2.1 (fun _ => Int.le_refl _) (fun j j0 j1 ih jn => ?_) h.2.2
  have i := ih (by omega)
  have rr := p_row_in hA (r := j - 1) ⟨by omega, by omega⟩
  have gap := p_xs_gap (c := c) hA (r := j - 1) ⟨by omega, by omega⟩
  have s := p_xs_s (A := A) (c := c) (r := j - 1) (by omega)
  rw [show j - 1 + 1 = j by omega] at s
  omega
/-- the words of the pages from one on come behind what was seen -/
theorem k_later {A : pA} {cnt c ct cw D y : Int} {P : pT} {k0 m : Nat} (hA : p_okB A cnt) (pg : g_pages (p_T A cnt D) P ct cw) (hm : (m : Int) ≤ cw) (hy : (k0 : Int) ≤ cw → y < p_xs A c (g_bf P 0 k0)) : ∀ k : Nat, k0 ≤ k → k < m → ∀ j : Nat, (j : Int) < P 0 k - g_bf P 0 k → ∀ v : Nat, (v : Int) < p_to A (g_bf P 0 k + j) - p_fr A (g_bf P 0 k + j) → 200 * c + 20 * p_ri A (g_bf P 0 k + j) + p_fr A (g_bf P 0 k + j) + v ≠ y := by
  intro k a b j hj v hv
  have T8 := p_T_8 (A := A) (cnt := cnt) (D := D)
  have c1 := pg.1
  have up := g_pages_up pg k (by omega) (by omega)
  rw [T8.1] at up
  have at0 := (pg.2.2.2.2.1 k (by omega) (by omega)).1
  have at1 := (pg.2.2.2.2.1 k0 (by omega) (by omega)).1
  have mono0 : g_bf P 0 k0 ≤ g_bf P 0 k := by
    by_cases e : k0 = k
    · rw [e]; exact Int.le_refl _
    · have m1 := g_pages_mono pg (k := (k0 : Int)) (l := (k : Int) - 1) (by omega) (by omega) (by omega)
      have u0 := (g_pages_up pg k0 (by omega) (by omega)).1
      have e1 : g_bf P 0 (k : Int) = P 0 ((k : Int) - 1) := by
        have := k_bf_s (P := P) (j := 0) (i := 0) (k := (k : Int) - 1) rfl (by omega)
        rw [show (k : Int) - 1 + 1 = k by omega] at this
        exact this
      rw [e1]
      omega
  have x := k_xs_mono (c := c) hA.1 (a := g_bf P 0 k0) (b := g_bf P 0 k + j) ⟨at1.1, by omega, by omega⟩
  have gap := p_xs_gap (c := c) hA.1 (r := g_bf P 0 k + j) ⟨by omega, by omega⟩
  have := hy (by omega)
  omega
/-- placed among those that waited -/
theorem k_fin_o {dp fi c ct cw cnt D : Int} {B : pT} {A : pA} {P : pT} {k q : Nat} (hA : p_okB A cnt) (hD : 8 ≤ D ∧ D ≤ 14) (pg : g_pages (p_T A cnt D) P ct cw) (hk : (k : Int) < cw) (hq : (q : Int) < mg_n (mg_pages dp B A (p_T A cnt D) P fi c k))
    (hpl : mg_e (mg_over dp (fi + k) (B 5) (mg_o (mg_pages dp B A (p_T A cnt D) P fi c k)) q (mg_begin (mg_pages dp B A (p_T A cnt D) P fi c k))) ≤ b_at 0 (mg_e (mg_over dp (fi + k) (B 5) (mg_o (mg_pages dp B A (p_T A cnt D) P fi c k)) q (mg_begin (mg_pages dp B A (p_T A cnt D) P fi c k)))) dp (B 5 (mg_o (mg_pages dp B A (p_T A cnt D) P fi c k) q))) :
    mg_p (mg_pages dp B A (p_T A cnt D) P fi c cw.toNat) (mg_o (mg_pages dp B A (p_T A cnt D) P fi c k) q) = 100 * (fi + k) + b_at 0 (mg_e (mg_over dp (fi + k) (B 5) (mg_o (mg_pages dp B A (p_T A cnt D) P fi c k)) q (mg_begin (mg_pages dp B A (p_T A cnt D) P fi c k)))) dp (B 5 (mg_o (mg_pages dp B A (p_T A cnt D) P fi c k) q)) := by
  have inc := mg_pages_inc (dp := dp) (fi := fi) (c := c) (B := B) hA hD pg k (by omega)
  have T8 := p_T_8 (A := A) (cnt := cnt) (D := D)
  have c1 := pg.1
  have up := g_pages_up pg k (by omega) (by omega)
  rw [T8.1] at up
  have at0 := (pg.2.2.2.2.1 k (by omega) (by omega)).1
  have oi := mg_over_inc (dp := dp) (pg := fi + k) (V := B 5) inc q (by omega)
  rw [if_pos hq] at oi
  have yb := inc.2.2 q (by omega) hq
  have at' := mg_step_at (pg := fi + k) (mg_inc_nw oi (Int.le_refl _)) hpl
  have e1 : mg_step dp (fi + k) (mg_o (mg_pages dp B A (p_T A cnt D) P fi c k) q) (B 5 (mg_o (mg_pages dp B A (p_T A cnt D) P fi c k) q)) 0 (mg_over dp (fi + k) (B 5) (mg_o (mg_pages dp B A (p_T A cnt D) P fi c k)) q (mg_begin (mg_pages dp B A (p_T A cnt D) P fi c k))) = mg_over dp (fi + k) (B 5) (mg_o (mg_pages dp B A (p_T A cnt D) P fi c k)) (q + 1) (mg_begin (mg_pages dp B A (p_T A cnt D) P fi c k)) := rfl
  rw [e1] at at'
  have o := mg_over_st (mg_n (mg_pages dp B A (p_T A cnt D) P fi c k)).toNat (by omega) (fun j a b => by have := inc.2.1 q j (by omega) (by omega) (by omega); omega) at'.1
  have r := mg_rows_st (dp := dp) (pg := fi + k) (c := c) (a := g_bf P 0 k) (B := B) (A := A) (pl := mg_pl (p_T A cnt D) P k) (j0 := 0) (P 0 k - g_bf P 0 k).toNat (Nat.zero_le _) (fun j _ b v hv => k_later (c := c) (k0 := k) (m := k + 1) hA pg (by omega) (fun _ => yb) k (Nat.le_refl _) (by omega) j (by omega) v hv) o.1
  have en : g_bf P 0 (((k + 1 : Nat) : Int)) = P 0 k := by
    rw [show ((k + 1 : Nat) : Int) = (k : Int) + 1 by omega]
    exact k_bf_s (i := 0) rfl (by omega)
  have xm := k_xs_mono (c := c) hA.1 (a := g_bf P 0 k) (b := P 0 k) ⟨at0.1, by omega, up.2.1⟩
  have p := mg_pages_st (dp := dp) (fi := fi) (c := c) (B := B) (A := A) (T := p_T A cnt D) (P := P) (k0 := k + 1) cw.toNat (by omega) (fun k' a b => k_later (c := c) (k0 := k + 1) (m := cw.toNat) hA pg (by omega) (fun _ => by rw [en]; omega) k' a b) r.1
  rw [p.2]
  show mg_p (mg_rows dp (fi + k) B A c (g_bf P 0 k) (mg_pl (p_T A cnt D) P k) (P 0 k - g_bf P 0 k).toNat (mg_over dp (fi + k) (B 5) (mg_o (mg_pages dp B A (p_T A cnt D) P fi c k)) (mg_n (mg_pages dp B A (p_T A cnt D) P fi c k)).toNat (mg_begin (mg_pages dp B A (p_T A cnt D) P fi c k)))) _ = _
  rw [r.2]
  show mg_p (mg_over dp (fi + k) (B 5) (mg_o (mg_pages dp B A (p_T A cnt D) P fi c k)) (mg_n (mg_pages dp B A (p_T A cnt D) P fi c k)).toNat (mg_begin (mg_pages dp B A (p_T A cnt D) P fi c k))) _ = _
  rw [o.2, at'.2]
