/-! ===== FacingleafModel.isPageSame is the class' hasSamePage ===== -/
theorem c_pgb {B : pT} {W : Int → Int} {ob : Prop} {Bo : pT} {Ro R : c_R} {c : Int} (hB : c_ok B) (h : c_out B W ob Bo Ro (c_p0 B) R) (hc : 0 ≤ c ∧ c < 3) : ∀ k, 0 ≤ k → k < w_ct (r_W R c) → 0 < B 0 c ∧ (0 ≤ g_bf (w_P (r_W R c)) 0 k ∧ g_bf (w_P (r_W R c)) 0 k ≤ w_P (r_W R c) 0 k ∧ w_P (r_W R c) 0 k ≤ p_SR (r_A B R c) (B 0 c)) ∧ (0 ≤ g_bf (w_P (r_W R c)) 1 k ∧ g_bf (w_P (r_W R c)) 1 k ≤ w_P (r_W R c) 1 k ∧ w_P (r_W R c) 1 k ≤ p_SF (r_A B R c) (B 0 c)) ∧ (0 ≤ g_bf (w_P (r_W R c)) 2 k ∧ g_bf (w_P (r_W R c)) 2 k ≤ w_P (r_W R c) 2 k ∧ w_P (r_W R c) 2 k ≤ p_SN (r_A B R c) (B 0 c)) := fun k k0 k1 => by
  have ok : p_okB (r_A B R c) (B 0 c) := c_okB hB h.1 hc
  have mk := (h.2 c hc.1 hc.2).1
  have hD := hB.2.2.2.2.2.2.2.1
  have N0 : 0 < B 0 c := Classical.byContradiction fun y => by have := (mk.1 (by omega)).2.1; omega
  have pg : g_pages (p_T (r_A B R c) (B 0 c) (B 8 1)) (w_P (r_W R c)) (w_ct (r_W R c)) (w_wr (r_W R c)) := (mk.2 N0).2.2
  have hT := p_T_tab (D := B 8 1) ok hD
  have up := g_pages_up pg k k0 k1
  have at' := pg.2.2.2.2.1 k k0 (by omega)
  have an := pg.2.2.2.2.1 (k + 1) (by omega) (by omega)
  have e0 : g_bf (w_P (r_W R c)) 0 (k + 1) = w_P (r_W R c) 0 k := g_bf_s k0
  have e1 : g_bf (w_P (r_W R c)) 1 (k + 1) = w_P (r_W R c) 1 k := g_bf_s k0
  have e2 : g_bf (w_P (r_W R c)) 2 (k + 1) = w_P (r_W R c) 2 k := g_bf_s k0
  rw [e0, e1, e2] at an
  have t1 := g_tab_at hT an.1
  have t3 := g_tab_at hT at'.1
  have e8 := p_T_8 (A := r_A B R c) (cnt := B 0 c) (D := B 8 1)
  have a1 := at'.1
  have a2 := at'.2.1
  have a3 := at'.2.2
  have b1 := an.2.1
  have b2 := an.2.2
  refine ⟨N0, ?_⟩
  by_cases q : k < w_wr (r_W R c)
  · have p3 := g_pages_3 hT pg (k := k) ⟨k0, q⟩
    omega
  · obtain ⟨z0, z1, z2, z3, z4⟩ := pg.2.2.1 k (by omega) k1
    have i6 := pg.2.2.2.1 k (by omega) (by omega)
    rw [i6] at a2 a3 t3
    have ends := hT.2.2.2.2.2.1
    have bf := (g_bF_p hT (f := g_bf (w_P (r_W R c)) 1 k) (by omega)).1
    have bl := (g_b_go hT (f := g_bf (w_P (r_W R c)) 1 k) (n := g_bf (w_P (r_W R c)) 2 k) (by omega) (by have := t3.2.2.2; omega)).1
    omega
def u_C (M : qM) (R Ro : c_R) (en e' p : Int) : Prop := ∃ u u', u_kd M en (fun c => w_fi (r_W R c)) (fun c => w_ct (r_W R c)) p u ∧ u_kd M e' (fun c => w_fi (r_W Ro c)) (fun c => w_ct (r_W Ro c)) p u' ∧ u_pg M (fun c => w_P (r_W R c)) (fun c => w_P (r_W Ro c)) (fun c => w_fi (r_W R c)) (fun c => w_fi (r_W Ro c)) en e' p u u'
theorem u_kd_ex {M : qM} {e p : Int} {fi ct : Int → Int} : ∃ u, u_kd M e fi ct p u := by
  by_cases q : p ≤ M 3 e 3
  · exact ⟨3, Or.inl ⟨q, rfl⟩⟩
  · by_cases q2 : ∃ c, (0 ≤ c ∧ c < 3) ∧ (fi c ≤ p ∧ p < fi c + ct c)
    · obtain ⟨c, a, b⟩ := q2
      exact ⟨c, Or.inr (Or.inl ⟨by omega, a, b⟩)⟩
    · exact ⟨_, Or.inr (Or.inr ⟨by omega, fun c a b z => q2 ⟨c, ⟨a, b⟩, z⟩, rfl⟩)⟩
