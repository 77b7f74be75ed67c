/-! ===== pieces of pages, and both ways of comparing ===== -/
theorem p_note_ex {A : pA} {cnt l : Int} (h : p_okA A cnt) (hl : 0 ≤ l ∧ l < p_SN A cnt) : ∃ i w k, (0 ≤ i ∧ i < cnt) ∧ (0 ≤ w ∧ w < A 6 i 0) ∧ A 4 i w = 2 ∧ (0 ≤ k ∧ k < A 5 i w) ∧ p_NB A i w + k = l := by
  have hc := h.1
  have pf : ∀ j : Int, 0 ≤ j → j < cnt → ∀ x, 0 ≤ (fun x => if A 4 j x = 2 then A 5 j x else 0) x := fun j j0 j1 x => by
    show 0 ≤ (if A 4 j x = 2 then A 5 j x else (0 : Int))
    have := (h.2.1 j j0 j1).1 x
    split <;> omega
  obtain ⟨i, i0, i1, i2, i3⟩ := p_sum_find (g := fun x => p_PN A x (A 6 x 0)) (k := l) cnt.toNat (fun x a b => p_sum_mono (a := 0) (fun y _ _ => pf x a (by omega) y) (Int.le_refl _) (p_okA_6 h ⟨a, by omega⟩).1) hl.1 (by rw [show ((cnt.toNat : Nat) : Int) = cnt by omega]; exact hl.2)
  have h6 := p_okA_6 h (i := i) ⟨i0, by omega⟩
  have i2' : p_SN A i ≤ l := i2
  have i3' : l < p_SN A i + p_PN A i (A 6 i 0) := i3
  obtain ⟨w, w0, w1, w2, w3⟩ := p_sum_find (g := fun x => if A 4 i x = 2 then A 5 i x else 0) (k := l - p_SN A i) (A 6 i 0).toNat (fun x _ _ => pf i i0 (by omega) x) (by omega) (by rw [show (((A 6 i 0).toNat : Nat) : Int) = A 6 i 0 by omega]; show l - p_SN A i < p_PN A i (A 6 i 0); omega)
  have w2' : p_PN A i w ≤ l - p_SN A i := w2
  have w3' : l - p_SN A i < p_PN A i w + (if A 4 i w = 2 then A 5 i w else (0 : Int)) := w3
  by_cases q : A 4 i w = 2
  · rw [if_pos q] at w3'
    exact ⟨i, w, l - p_NB A i w, ⟨i0, by omega⟩, ⟨w0, by omega⟩, q, by unfold p_NB; omega, by omega⟩
  · rw [if_neg q] at w3'; omega
theorem c_float {A : pA} {cnt n c f : Int} {M N : qM} (hA : p_okB A cnt) (hr : p_rows A cnt n M) (hm : p_mw A c cnt 0 N) (hf : 0 ≤ f ∧ f < p_SF A cnt) : ∃ i w, (0 ≤ i ∧ i < cnt) ∧ (0 ≤ w ∧ w < A 6 i 0) ∧ A 4 i w = 3 ∧ M 59 n f = (i * 20 + w) * 4 ∧ N 95 0 (4 * c + f) = 200 * c + 20 * i + w := by
  obtain ⟨i, w, a1, a2, a3, a4⟩ := p_float_ex hA.1 hf
  have x := (hr.2.1.2.2.2.2.2 i w a1.1 a2.1 a2.2 (Or.inl a1.2)).1 a3
  have y := (hm.2.2 i w a1.1 a2.1 a2.2 (Or.inl a1.2)).1 a3
  rw [a4] at x y
  exact ⟨i, w, a1, a2, a3, x.1, by rw [y]; unfold p_id; omega⟩
theorem c_note {A : pA} {cnt n c l : Int} {M N : qM} (hA : p_okB A cnt) (hr : p_rows A cnt n M) (hm : p_mw A c cnt 0 N) (hl : 0 ≤ l ∧ l < p_SN A cnt) : ∃ i w k, (0 ≤ i ∧ i < cnt) ∧ (0 ≤ w ∧ w < A 6 i 0) ∧ (0 ≤ k ∧ k < 4) ∧ M 60 n l = (i * 20 + w) * 4 + k ∧ N 97 0 (12 * c + l) = 200 * c + 20 * i + w ∧ N 98 0 (12 * c + l) = k := by
  obtain ⟨i, w, k, a1, a2, a3, a4, a5⟩ := p_note_ex hA.1 hl
  have x := (hr.2.1.2.2.2.2.2 i w a1.1 a2.1 a2.2 (Or.inl a1.2)).2 a3 k a4.1 a4.2
  have y := (hm.2.2 i w a1.1 a2.1 a2.2 (Or.inl a1.2)).2 a3 k a4.1 a4.2
  have b := (hA.2.1 i w a1.1 a1.2 a2.1 a2.2).2 a3
  rw [a5] at x y
  exact ⟨i, w, k, a1, a2, ⟨a4.1, by omega⟩, x, by rw [y.1]; unfold p_id; omega, y.2⟩
theorem c_A_6 {B : pT} {L : Int → Int} {E : Int → Int → Int} {c i : Int} (hi : 0 ≤ i ∧ i < 10) : c_A B L E c 6 i 0 = B 3 (10 * c + i) := (c_A_v hi).2.2.2.2.2.2
theorem c_ch_ed {B : pT} {W : Int → Int} {ob : Prop} {Bo : pT} {Ro R : c_R} {e c : Int} {M : qM} (hB : c_ok B) (h : c_out B W ob Bo Ro (c_p0 B) R) (hc : 0 ≤ c ∧ c < 3) (ch : c_ch (r_A B R c) (B 0 c) (r_W R c) c e M) : u_ed (w_P (r_W R c)) (w_ct (r_W R c)) e c M := by
  have pb := c_p0_b hB
  have fb := c_fi_bd hB ⟨pb.2.2.1, by omega⟩ h hc
  have ok : p_okB (r_A B R c) (B 0 c) := c_okB hB h.1 hc
  have n10 := ok.1.1
  have mk := (h.2 c hc.1 hc.2).1
  have t67 := ok.2.2
  have hD := hB.2.2.2.2.2.2.2.1
  have e9 : M 9 (1 + 3 * e + c) 0 = p_SR (r_A B R c) (B 0 c) := ch.1.1.1
  have pages : 0 < w_ct (r_W R c) → g_pages (p_T (r_A B R c) (B 0 c) (B 8 1)) (w_P (r_W R c)) (w_ct (r_W R c)) (w_wr (r_W R c)) := fun z => by
    have N0 : 0 < B 0 c := Classical.byContradiction fun y => by have := (mk.1 (by omega)).2.1; omega
    exact (mk.2 N0).2.2
  have hT := p_T_tab (D := B 8 1) ok hD
  have pgb : ∀ k, 0 ≤ k → k < w_ct (r_W R c) → (0 ≤ g_bf (w_P (r_W R c)) 0 k ∧ g_bf (w_P (r_W R c)) 0 k ≤ w_P (r_W R c) 0 k ∧ w_P (r_W R c) 0 k ≤ p_SR (r_A B R c) (B 0 c)) ∧ (0 ≤ g_bf (w_P (r_W R c)) 1 k ∧ g_bf (w_P (r_W R c)) 1 k ≤ w_P (r_W R c) 1 k ∧ w_P (r_W R c) 1 k ≤ p_SF (r_A B R c) (B 0 c)) ∧ (0 ≤ g_bf (w_P (r_W R c)) 2 k ∧ g_bf (w_P (r_W R c)) 2 k ≤ w_P (r_W R c) 2 k ∧ w_P (r_W R c) 2 k ≤ p_SN (r_A B R c) (B 0 c)) := fun k k0 k1 => by
    have pg := pages (by omega)
    have up := g_pages_up pg k k0 k1
    have at' := pg.2.2.2.2.1 k k0 (by omega)
    have an := pg.2.2.2.2.1 (k + 1) (by omega) (by omega)
    have e0 : g_bf (w_P (r_W R c)) 0 (k + 1) = w_P (r_W R c) 0 k := g_bf_s k0
    have e1 : g_bf (w_P (r_W R c)) 1 (k + 1) = w_P (r_W R c) 1 k := g_bf_s k0
    have e2 : g_bf (w_P (r_W R c)) 2 (k + 1) = w_P (r_W R c) 2 k := g_bf_s k0
    rw [e0, e1, e2] at an
    have t1 := g_tab_at hT an.1
    have t3 := g_tab_at hT at'.1
    have e8 := p_T_8 (A := r_A B R c) (cnt := B 0 c) (D := B 8 1)
    have a1 := at'.1
    have a2 := at'.2.1
    have a3 := at'.2.2
    have b1 := an.2.1
    have b2 := an.2.2
    by_cases q : k < w_wr (r_W R c)
    · have p3 := g_pages_3 hT pg (k := k) ⟨k0, q⟩
      omega
    · obtain ⟨z0, z1, z2, z3, z4⟩ := pg.2.2.1 k (by omega) k1
      have i6 := pg.2.2.2.1 k (by omega) (by omega)
      rw [i6] at a2 a3 t3
      have ends := hT.2.2.2.2.2.1
      have bf := (g_bF_p hT (f := g_bf (w_P (r_W R c)) 1 k) (by omega)).1
      have bl := (g_b_go hT (f := g_bf (w_P (r_W R c)) 1 k) (n := g_bf (w_P (r_W R c)) 2 k) (by omega) (by have := t3.2.2.2; omega)).1
      omega
  have dummy : p_mw (r_A B R c) c (B 0 c) 0 (fun k m s => M k m s) ∨ True := Or.inr trivial
  refine ⟨ch.2.1, by omega, fun k k0 k1 => ?_, fun k k0 k1 l l0 l1 => ?_, by rw [e9]; omega, fun r r0 r1 => ?_⟩
  · have b := pgb k k0 k1
    have l4 := ok.1.2.2.1
    have l12 := ok.1.2.2.2.1
    rw [e9]
    refine ⟨b.1, by omega, by omega, fun f f0 f1 => ?_⟩
    obtain ⟨i, w, a1, a2, a3, a4⟩ := p_float_ex ok.1 (k := f) ⟨f0, by omega⟩
    have x := (ch.1.2.1.2.2.2.2.2 i w a1.1 a2.1 a2.2 (Or.inl a1.2)).1 a3
    rw [a4] at x
    have h6 := p_okA_6 ok.1 a1
    rw [x.1]; omega
  · have b := pgb k k0 k1
    obtain ⟨i, w, kk, a1, a2, a3, a4, a5⟩ := p_note_ex ok.1 (l := l) ⟨l0, by omega⟩
    have x := (ch.1.2.1.2.2.2.2.2 i w a1.1 a2.1 a2.2 (Or.inl a1.2)).2 a3 kk a4.1 a4.2
    have bb := (ok.2.1 i w a1.1 a1.2 a2.1 a2.2).2 a3
    rw [a5] at x
    have h6 := p_okA_6 ok.1 a1
    rw [x]; omega
  · rw [e9] at r1
    have row := ch.1.1.2.1 r r0 r1
    have ri := p_row_in ok.1 (r := r) ⟨r0, r1⟩
    rw [row.1, row.2.1, row.2.2.1]
    omega
