/-! ===== a margin of a row, once it stands, is the answer ===== -/
theorem k_fin_r {dp fi c ct cw cnt D y : Int} {B : pT} {A : pA} {P : pT} {k v j : Nat} {s : c_Mg} (hA : p_okB A cnt) (hD : 8 ≤ D ∧ D ≤ 14) (pg : g_pages (p_T A cnt D) P ct cw) (hk : (k : Int) < cw) (hv : g_bf P 0 k + v < P 0 k) (hj : (j : Int) < p_to A (g_bf P 0 k + v) - p_fr A (g_bf P 0 k + v))
    (hs : s = mg_ws dp (fi + k) B (200 * c + 20 * p_ri A (g_bf P 0 k + v) + p_fr A (g_bf P 0 k + v)) (mg_pl (p_T A cnt D) P k (g_bf P 0 k + v)) j (mg_rows dp (fi + k) B A c (g_bf P 0 k) (mg_pl (p_T A cnt D) P k) v (mg_over dp (fi + k) (B 5) (mg_o (mg_pages dp B A (p_T A cnt D) P fi c k)) (mg_n (mg_pages dp B A (p_T A cnt D) P fi c k)).toNat (mg_begin (mg_pages dp B A (p_T A cnt D) P fi c k)))))
    (hy : y = 200 * c + 20 * p_ri A (g_bf P 0 k + v) + p_fr A (g_bf P 0 k + v) + j) (k5 : B 4 y = 5) (hpl : mg_e s ≤ b_at (mg_pl (p_T A cnt D) P k (g_bf P 0 k + v)) (mg_e s) dp (B 5 y)) :
    mg_p (mg_pages dp B A (p_T A cnt D) P fi c cw.toNat) y = 100 * (fi + k) + b_at (mg_pl (p_T A cnt D) P k (g_bf P 0 k + v)) (mg_e s) dp (B 5 y) := by
  have inc := mg_pages_inc (dp := dp) (fi := fi) (c := c) (B := B) hA hD pg k (by omega)
  have T8 := p_T_8 (A := A) (cnt := cnt) (D := D)
  have c1 := pg.1
  have up := g_pages_up pg k (by omega) (by omega)
  rw [T8.1] at up
  have at0 := (pg.2.2.2.2.1 k (by omega) (by omega)).1
  have oa := mg_over_all (dp := dp) (pg := fi + k) (V := B 5) inc
  generalize hs1 : mg_over dp (fi + k) (B 5) (mg_o (mg_pages dp B A (p_T A cnt D) P fi c k)) (mg_n (mg_pages dp B A (p_T A cnt D) P fi c k)).toNat (mg_begin (mg_pages dp B A (p_T A cnt D) P fi c k)) = s1 at *
  have ri := mg_rows_inc (dp := dp) (pg := fi + k) (B := B) (pl := mg_pl (p_T A cnt D) P k) hA.1 at0.1 oa v (by omega)
  have rr := p_row_in hA.1 (r := g_bf P 0 k + v) ⟨by omega, by omega⟩
  have gap := p_xs_gap (c := c) hA.1 (r := g_bf P 0 k + v) ⟨by omega, by omega⟩
  have xs := p_xs_s (A := A) (c := c) (r := g_bf P 0 k + v) (by omega)
  have wi := mg_ws_inc (dp := dp) (pg := fi + k) (B := B) (w := mg_pl (p_T A cnt D) P k (g_bf P 0 k + v)) (mg_inc_up ri gap.2.1) j
  rw [← hs, ← hy] at wi
  have at' := mg_step_at (pg := fi + k) (mg_inc_nw wi (Int.le_refl _)) hpl
  have e1 : mg_ws dp (fi + k) B (200 * c + 20 * p_ri A (g_bf P 0 k + v) + p_fr A (g_bf P 0 k + v)) (mg_pl (p_T A cnt D) P k (g_bf P 0 k + v)) (j + 1) (mg_rows dp (fi + k) B A c (g_bf P 0 k) (mg_pl (p_T A cnt D) P k) v s1) = mg_step dp (fi + k) y (B 5 y) (mg_pl (p_T A cnt D) P k (g_bf P 0 k + v)) s := by
    rw [hy] at k5 ⊢
    rw [hs]
    show (if B 4 (200 * c + 20 * p_ri A (g_bf P 0 k + v) + p_fr A (g_bf P 0 k + v) + (j : Int)) = 5 then _ else _) = _
    rw [if_pos k5]
  rw [← e1] at at'
  -- the rest of the row, of the page, of the pages
  have w := mg_ws_st (dp := dp) (pg := fi + k) (B := B) (w := mg_pl (p_T A cnt D) P k (g_bf P 0 k + v)) (p_to A (g_bf P 0 k + v) - p_fr A (g_bf P 0 k + v)).toNat (by omega) (fun j' a b => by omega) at'.1
  have e2 : mg_rows dp (fi + k) B A c (g_bf P 0 k) (mg_pl (p_T A cnt D) P k) (v + 1) s1 = mg_ws dp (fi + k) B (200 * c + 20 * p_ri A (g_bf P 0 k + v) + p_fr A (g_bf P 0 k + v)) (mg_pl (p_T A cnt D) P k (g_bf P 0 k + v)) (p_to A (g_bf P 0 k + v) - p_fr A (g_bf P 0 k + v)).toNat (mg_rows dp (fi + k) B A c (g_bf P 0 k) (mg_pl (p_T A cnt D) P k) v s1) := rfl
  have w1 := w.1
  rw [← e2] at w1
  have r := mg_rows_st (P 0 k - g_bf P 0 k).toNat (show v + 1 ≤ (P 0 k - g_bf P 0 k).toNat by omega) (fun j' a b v' hv' => by
    have rr' := p_row_in hA.1 (r := g_bf P 0 k + j') ⟨by omega, by omega⟩
    have gap' := p_xs_gap (c := c) hA.1 (r := g_bf P 0 k + j') ⟨by omega, by omega⟩
    have m := k_xs_mono (c := c) hA.1 (a := g_bf P 0 k + v + 1) (b := g_bf P 0 k + j') ⟨by omega, by omega, by omega⟩
    omega) w1
  have en : g_bf P 0 (((k + 1 : Nat) : Int)) = P 0 k := by
    rw [show ((k + 1 : Nat) : Int) = (k : Int) + 1 by omega]
    exact k_bf_s (i := 0) rfl (by omega)
  have xm := k_xs_mono (c := c) hA.1 (a := g_bf P 0 k + v + 1) (b := P 0 k) ⟨by omega, by omega, up.2.1⟩
  have e3 : mg_pages dp B A (p_T A cnt D) P fi c (k + 1) = mg_rows dp (fi + k) B A c (g_bf P 0 k) (mg_pl (p_T A cnt D) P k) (P 0 k - g_bf P 0 k).toNat s1 := by rw [← hs1]; rfl
  have r1 := r.1
  rw [← e3] at r1
  have p := mg_pages_st (dp := dp) (fi := fi) (c := c) (B := B) (A := A) (T := p_T A cnt D) (P := P) (k0 := k + 1) cw.toNat (by omega) (fun k' a b => k_later (c := c) (k0 := k + 1) (m := cw.toNat) hA pg (by omega) (fun _ => by rw [en]; omega) k' a b) r1
  rw [p.2, e3, r.2, e2, w.2, at'.2]
