/-! ===== headOf, onPage ===== -/
theorem y_N {B : pT} {en L : Int} {W : Int → Int} {R : c_R} {M : qM} (hB : c_ok B) (h : c_mdx B en W R L M) {c p : Int} (hc : 0 ≤ c ∧ c < 3) (hp : w_fi (r_W R c) ≤ p ∧ p < w_fi (r_W R c) + w_ct (r_W R c)) : 0 < B 0 c ∧ (M 106 0 p = g_bf (w_P (r_W R c)) 0 (p - w_fi (r_W R c)) ∧ M 107 0 p = w_P (r_W R c) 0 (p - w_fi (r_W R c)) - g_bf (w_P (r_W R c)) 0 (p - w_fi (r_W R c)) ∧ M 109 0 p = w_P (r_W R c) 1 (p - w_fi (r_W R c)) - g_bf (w_P (r_W R c)) 1 (p - w_fi (r_W R c)) ∧ M 111 0 p = w_P (r_W R c) 2 (p - w_fi (r_W R c)) - g_bf (w_P (r_W R c)) 2 (p - w_fi (r_W R c)) ∧ M 112 0 p = w_P (r_W R c) 3 (p - w_fi (r_W R c)) ∧ M 113 0 p = w_P (r_W R c) 4 (p - w_fi (r_W R c))) ∧ (0 ≤ p - w_fi (r_W R c) ∧ p - w_fi (r_W R c) < w_ct (r_W R c)) ∧ (∀ j, 0 ≤ j → j < w_ct (r_W R c) → (0 ≤ g_bf (w_P (r_W R c)) 0 j ∧ g_bf (w_P (r_W R c)) 0 j ≤ w_P (r_W R c) 0 j ∧ w_P (r_W R c) 0 j ≤ p_SR (r_A B R c) (B 0 c)) ∧ (0 ≤ w_P (r_W R c) 0 j ∧ w_P (r_W R c) 0 j ≤ 70) ∧ (0 ≤ w_P (r_W R c) 1 j ∧ w_P (r_W R c) 1 j ≤ 4) ∧ 0 ≤ w_P (r_W R c) 2 j ∧ w_P (r_W R c) 2 j ≤ 12) := by
  obtain ⟨ob, B1, R1, out⟩ := h.2.2.1
  have N0 : 0 < B 0 c := Classical.byContradiction fun z => by
    have := (y_mk hB h hc).1 (by omega); omega
  have cd := (y_cd h hc).2 N0
  have pg := (cd.2.1 (p - w_fi (r_W R c)) (by omega) (by omega)).1
  rw [show w_fi (r_W R c) - 1 + 1 + (p - w_fi (r_W R c)) = p by omega] at pg
  have ok := (y_70 hB h hc)
  refine ⟨N0, ⟨pg.2.1, pg.2.2.1, pg.2.2.2.2.1, pg.2.2.2.2.2.2.1, pg.2.2.2.2.2.2.2.1, pg.2.2.2.2.2.2.2.2⟩, ⟨by omega, by omega⟩, fun j j0 j1 => ?_⟩
  have b := c_pgb hB out hc j j0 j1
  have o1 := ok.1.1.2.2.1
  have o2 := ok.1.1.2.2.2.1
  exact ⟨b.2.1, by omega, by omega, by omega⟩
def y_what (M : qM) (p z : Int) : Int := if M 105 0 p < 3 then (if z = 0 then M 107 0 p else if z = 1 then M 109 0 p else if z = 2 then M 111 0 p else if z = 3 then M 112 0 p else M 113 0 p) else 0
theorem t240_t {M N : qM} {p z k : Int} {F : Int → qM → Prop} (hN : N = qU M 11 0 0 k) (hk : 0 ≤ k) (h4 : k = 0 → 0 ≤ p ∧ p < 400) (H0 : k = 0 → F (y_what M p z) N) (H1 : k ≠ 0 → ∀ b, F b N) : (((N 11 0 0) ≤ 0 →
 ((0 ≤ p ∧ p < 400) ∧ (((N 105 0 p) < 3 →
 (((z = 0 → (0 ≤ p ∧ p < 400)) ∧ (¬ (z = 0) → ((z = 1 → (0 ≤ p ∧ p < 400)) ∧ (¬ (z = 1) → ((z = 2 → (0 ≤ p ∧ p < 400)) ∧ (¬ (z = 2) → ((z = 3 → (0 ≤ p ∧ p < 400)) ∧ (¬ (z = 3) → (0 ≤ p ∧ p < 400))))))))) ∧
 (∀ x113 : Int, x113 = (if z = 0 then (N 107 0 p) else (if z = 1 then (N 109 0 p) else (if z = 2 then (N 111 0 p) else (if z = 3 then (N 112 0 p) else (N 113 0 p))))) → F x113 N))) ∧
 (¬ ((N 105 0 p) < 3) →
 F 0 N)))) ∧
 (¬ ((N 11 0 0) ≤ 0) →
 F 0 N)) := by
  have e : N 11 0 0 = k := by rw [hN, qU_s]
  have o : ∀ (k : Nat), k ≠ 11 → N k 0 p = M k 0 p := fun k q => by rw [hN, qU_k q]
  rw [e, o 105 (by decide), o 107 (by decide), o 109 (by decide), o 111 (by decide), o 112 (by decide), o 113 (by decide)]
  refine ⟨fun q => ?_, fun q => H1 (by omega) 0⟩
  have k0 : k = 0 := by omega
  have b := h4 k0
  have w := H0 k0
  unfold y_what at w
  refine ⟨b, fun q3 => ⟨⟨fun _ => b, fun _ => ⟨fun _ => b, fun _ => ⟨fun _ => b, fun _ => ⟨fun _ => b, fun _ => b⟩⟩⟩⟩, fun x hx => ?_⟩, fun q3 => ?_⟩
  · rw [if_pos q3] at w
    rw [hx]; exact w
  · rw [if_neg q3] at w; exact w
