/-! ===== the bounds that a page of margins asks for ===== -/
section
variable {B : pT} {W : Int → Int} {ob : Prop} {Bo : pT} {Ro R : c_R} {p0 c : Int}
theorem k_ct_le (hB : c_ok B) (hl : k_lim B) (hc : 0 ≤ c ∧ c < 3) {y : Int} (hy : 0 ≤ y ∧ y ≤ 200 * (c + 1)) : mg_ct B c y ≤ 16 := by
  have a := mg_ct_mono (B := B) (c := c) (y := y) (z := 200 * (c + 1)) hy.1 hy.2
  have b := k_mg16 hB hl hc
  omega
theorem k_mgn_16 (hB : c_ok B) (hl : k_lim B) (out : c_out B W ob Bo Ro p0 R) (hc : 0 ≤ c ∧ c < 3) (hN : 0 < B 0 c) (k : Nat) (hk : (k : Int) ≤ w_wr (r_W R c)) : mg_ok B c 16 (c_mgn B R c k) := by
  have o := c_mgn_ok hB out hc hN k hk
  have sz : k_sz (r_A B R c) (B 0 c) c := (k_szA hB hl out.1 hc).1
  have pg := ((out.2 c hc.1 hc.2).1.2 hN).2.2
  have at0 := (pg.2.2.2.2.1 k (by omega) (by have := pg.1; omega)).1
  have T8 := p_T_8 (A := r_A B R c) (cnt := B 0 c) (D := B 8 1)
  have at1 : 0 ≤ g_bf (w_P (r_W R c)) 0 k ∧ g_bf (w_P (r_W R c)) 0 k ≤ p_SR (r_A B R c) (B 0 c) := at0
  have xb : 200 * c ≤ p_xs (r_A B R c) c (g_bf (w_P (r_W R c)) 0 k) ∧ p_xs (r_A B R c) c (g_bf (w_P (r_W R c)) 0 k) ≤ 200 * (c + 1) := by
    have l6 := sz.2.1
    by_cases z : g_bf (w_P (r_W R c)) 0 (k : Int) ≤ 0
    · unfold p_xs; rw [if_pos z]; omega
    · have rr := p_row_in sz.2.2.2.1.1 (r := g_bf (w_P (r_W R c)) 0 k - 1) ⟨by omega, by omega⟩
      unfold p_xs
      rw [if_neg z]
      omega
  exact mg_ok_N o (by have := k_ct_le hB hl hc (y := p_xs (r_A B R c) c (g_bf (w_P (r_W R c)) 0 k)) ⟨by omega, xb.2⟩; have := o.2.1; omega)
end
