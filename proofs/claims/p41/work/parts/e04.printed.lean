/-! ===== what was printed ===== -/
def c_rel (B Bo : pT) : Prop := (∀ c, 0 ≤ c → c < 3 → Bo 0 c ≤ B 0 c) ∧ ∀ x, 0 ≤ x → x < 30 → x % 10 < Bo 0 (x / 10) → B 7 x = Bo 7 x → B 1 x = Bo 1 x ∧ B 3 x = Bo 3 x ∧ ∀ w, 0 ≤ w → w < B 3 x → B 4 (20 * x + w) = Bo 4 (20 * x + w) ∧ B 5 (20 * x + w) = Bo 5 (20 * x + w)
/-- e' holds what was printed of the book Bo; N is the memory then -/
def c_prt (B Bo : pT) (Wo : Int → Int) (Ro : c_R) (Lo e' : Int) (N M : qM) : Prop := (c_ok Bo ∧ c_ok2 Bo) ∧ (∃ ob B1 R1, c_out Bo Wo ob B1 R1 (c_p0 Bo) Ro) ∧ (0 ≤ Lo ∧ Lo ≤ 1000) ∧ c_edn Bo Ro (c_tot Bo Ro Lo) e' M ∧ m_cpy Bo Ro (c_tot Bo Ro Lo) N M ∧ m_now Bo Wo Ro Lo N ∧ c_rel B Bo ∧ ∀ x, 0 ≤ x → x < 30 → x % 10 < Bo 0 (x / 10) → (M 68 0 x = M 120 0 x ↔ B 7 x = Bo 7 x)
theorem c_tot_b {B : pT} {W : Int → Int} {ob : Prop} {Bo : pT} {Ro R : c_R} {L : Int} (hB : c_ok B) (h : c_out B W ob Bo Ro (c_p0 B) R) (hL : 0 ≤ L ∧ L ≤ 1000) : (c_p0 B ≤ c_lal B R ∧ c_lal B R ≤ 299) ∧ c_lal B R ≤ c_tot B R L ∧ c_tot B R L < 400 := by
  have pb := c_p0_b hB
  have b := c_la_bd2 hB h.1 pb.2.2.1 (Int.le_refl _) h.2 3 (by decide)
  have pc := c_pc_b hB.2.2.2.2.2.2.2.1 hL
  have e1 : c_lal B R = c_la (r_W R) (c_p0 B) 3 := rfl
  have e2 : c_tot B R L = c_lal B R + (L + 2 * B 8 1 - 1) / (2 * B 8 1) := rfl
  omega
theorem c_fi_la {B : pT} {W : Int → Int} {ob : Prop} {Bo : pT} {Ro R : c_R} {c : Int} (hB : c_ok B) (h : c_out B W ob Bo Ro (c_p0 B) R) (hc : 0 ≤ c ∧ c < 3) (hN : 0 < B 0 c) : c_p0 B < w_fi (r_W R c) ∧ w_fi (r_W R c) + w_ct (r_W R c) - 1 ≤ c_lal B R := by
  have pb := c_p0_b hB
  have st := fun n n0 n1 => c_la_st hB h.1 (Int.le_refl _) h.2 n n0 n1
  have b := c_la_bd2 hB h.1 pb.2.2.1 (Int.le_refl _) h.2 c.toNat (by omega)
  have sc := (st c hc.1 hc.2).2 hN
  have mono : c_la (r_W R) (c_p0 B) (c + 1).toNat ≤ c_la (r_W R) (c_p0 B) (3 : Int).toNat := by
    refine q_upto (P := fun x => c + 1 ≤ x → c_la (r_W R) (c_p0 B) (c + 1).toNat ≤ c_la (r_W R) (c_p0 B) x.toNat → c_la (r_W R) (c_p0 B) (c + 1).toNat ≤ c_la (r_W R) (c_p0 B) (3 : Int).toNat) (a := c + 1) (b := 3) (by omega) (fun _ q => q) (fun x x0 x1 ih _ q => ih (by omega) ?_) (Int.le_refl _) (Int.le_refl _)
    have s := st x (by omega) (by omega)
    by_cases e : B 0 x ≤ 0
    · rw [s.1 e]; exact q
    · have := s.2 (by omega); omega
  have e3 : c_la (r_W R) (c_p0 B) (3 : Int).toNat = c_lal B R := rfl
  omega
theorem c_prt_om {B Bo : pT} {Wo : Int → Int} {Ro : c_R} {Lo e' : Int} {N M : qM} (h : c_prt B Bo Wo Ro Lo e' N M) : c_om Bo Ro e' M := ⟨h.2.2.2.1.2.2.2.1.1, h.2.2.2.1.2.2.2.1.2.1, h.2.2.2.1.1, h.2.2.2.1.2.2.2.2.1⟩
theorem c_prt_old {B Bo : pT} {Wo : Int → Int} {Ro : c_R} {Lo e' : Int} {N M : qM} (hB : c_ok B) (h : c_prt B Bo Wo Ro Lo e' N M) : ∀ L E, c_oldok B L E Bo Ro := fun L E c c0 c3 => by
  obtain ⟨⟨o1, o2⟩, ⟨ob, B1, R1, out⟩, h3, h4, h5, h6, ⟨r1, r2⟩, h8⟩ := h
  have ok := c_okB o1 out.1 ⟨c0, c3⟩
  have mk := (out.2 c c0 c3).1
  have n10 := (hB.1 c c0 c3).1
  refine ⟨ok, o1.2.2.2.2.2.2.2.1, r1 c c0 c3, fun i i0 i1 i2 ss => ?_, fun q => ⟨(mk.1 q).2.2.1, (mk.1 q).2.1⟩, fun q => (mk.2 q).2.2⟩
  have v := fun w => c_A_v (B := B) (L := L) (E := E) (c := c) (i := i) (w := w) ⟨i0, by omega⟩
  have v' := fun w => c_A_v (B := Bo) (L := r_L Ro) (E := r_E Ro) (c := c) (i := i) (w := w) ⟨i0, by omega⟩
  have e := r2 (10 * c + i) (by omega) (by omega) (by rw [show (10 * c + i) / 10 = c by omega]; omega) ss
  unfold c_sit
  rw [show r_A Bo Ro c = c_A Bo (r_L Ro) (r_E Ro) c from rfl, (v 0).1, (v' 0).1, (v 0).2.2.2.2.2.2, (v' 0).2.2.2.2.2.2]
  refine ⟨e.1.symm, e.2.1.symm, fun w w0 w1 => ?_⟩
  rw [(v w).2.2.2.2.1, (v' w).2.2.2.2.1, (v w).2.2.2.2.2.1, (v' w).2.2.2.2.2.1]
  have := e.2.2 w w0 w1
  exact ⟨this.1.symm, this.2.symm⟩
theorem c_prt_mom {B Bo : pT} {Wo : Int → Int} {Ro : c_R} {Lo e' : Int} {N M : qM} (h : c_prt B Bo Wo Ro Lo e' N M) : m_om B Bo Ro M := by
  obtain ⟨⟨o1, o2⟩, ⟨ob, B1, R1, out⟩, h3, h4, ⟨⟨y1, y2, y3, y4⟩, y5, y6, y7, y8, y9, y10, y11⟩, ⟨n1, n2, n3, n4, n5, n6⟩, h7, h8⟩ := h
  have tb := c_tot_b o1 out h3
  have pb := c_p0_b o1
  refine ⟨⟨by omega, y3, y4⟩, fun c c0 c3 => ?_, h8⟩
  have cd := n1.2 c c0 c3
  have ok := c_okB o1 out.1 ⟨c0, c3⟩
  have mk := (out.2 c c0 c3).1
  have t67 : p_SR (r_A Bo Ro c) (Bo 0 c) ≤ 67 := ok.2.2
  by_cases q : 0 < Bo 0 c
  · have cq := cd.2 q
    have pg := (mk.2 q).2.2
    have pg1 := pg.1
    have fl := c_fi_la o1 out ⟨c0, c3⟩ q
    have m0 := (mk.2 q).1
    have e87 : M 119 0 c = p_SR (r_A Bo Ro c) (Bo 0 c) := by rw [(y5 c c0 c3).2]; exact cq.1.1
    refine ⟨e87, fun r r0 r1 => ?_, fun z => by omega, fun _ => ⟨⟨by omega, by omega, by omega⟩, ⟨by omega, pg1.2.1⟩, by rw [(y5 c c0 c3).1]; have := cq.2.2.1; omega, fun k k0 k1 => ?_, fun z => ?_, fun k k0 k1 => ?_, fun k k0 k1 => ?_, fun z => ?_⟩⟩
    · have row := cq.1.2 r r0 r1
      have y := y7 (70 * c + r) (by omega) (by omega)
      exact ⟨by rw [y.1]; exact row.1, by rw [y.2.1]; exact row.2.2.1, by rw [y.2.2]; exact row.2.2.2.1⟩
    · have p := (cq.2.1 k k0 k1).1
      have a := fun i hi => y11 i (w_fi (r_W Ro c) - 1 + 1 + k) hi (by omega) (by omega)
      have a0 : M 128 0 (w_fi (r_W Ro c) - 1 + 1 + k) = N 105 0 (w_fi (r_W Ro c) - 1 + 1 + k) := a 0 (by decide)
      have a1 : M 129 0 (w_fi (r_W Ro c) - 1 + 1 + k) = N 106 0 (w_fi (r_W Ro c) - 1 + 1 + k) := a 1 (by decide)
      have a2 : M 130 0 (w_fi (r_W Ro c) - 1 + 1 + k) = N 107 0 (w_fi (r_W Ro c) - 1 + 1 + k) := a 2 (by decide)
      have a4 : M 132 0 (w_fi (r_W Ro c) - 1 + 1 + k) = N 109 0 (w_fi (r_W Ro c) - 1 + 1 + k) := a 4 (by decide)
      rw [a0, a1, a2, a4]
      exact ⟨p.1, p.2.1, p.2.2.1, p.2.2.2.2.1⟩
    · have a0 : M 128 0 (w_fi (r_W Ro c) - 1 + 1 + w_ct (r_W Ro c)) = N 105 0 (w_fi (r_W Ro c) - 1 + 1 + w_ct (r_W Ro c)) := y11 0 _ (by decide) (by omega) (by omega)
      rw [a0]
      by_cases l : w_fi (r_W Ro c) - 1 + 1 + w_ct (r_W Ro c) ≤ c_lal Bo Ro
      · rcases n3 _ (by omega) l with z1 | ⟨c', z1, z2, z3, z4, z5⟩ | ⟨z1, z2, z3⟩
        · omega
        · rw [z5]
          intro e
          subst e
          omega
        · rw [z2]; omega
      · rw [n4 _ (by omega) (by omega)]; omega
    · have u := (g_pages_up pg k (by omega) k1).2.2.2 k0
      have v := pg.2.2.2.1 k k0 (by omega)
      omega
    · have v := (pg.2.1 (k + 1) (by omega) (by omega)).1
      have e : g_bf (w_P (r_W Ro c)) 0 (k + 1) = w_P (r_W Ro c) 0 k := g_bf_s k0
      have e8 : p_T (c_A Bo (r_L Ro) (r_E Ro) c) (Bo 0 c) (Bo 8 1) 8 0 = p_SR (r_A Bo Ro c) (Bo 0 c) := rfl
      omega
    · have v := pg.2.2.2.1 (w_wr (r_W Ro c)) (Int.le_refl _) pg1.2.1
      have e : g_bf (w_P (r_W Ro c)) 0 (w_wr (r_W Ro c) - 1 + 1) = w_P (r_W Ro c) 0 (w_wr (r_W Ro c) - 1) := g_bf_s (by omega)
      rw [show w_wr (r_W Ro c) - 1 + 1 = w_wr (r_W Ro c) by omega] at e
      have e8 : p_T (c_A Bo (r_L Ro) (r_E Ro) c) (Bo 0 c) (Bo 8 1) 8 0 = p_SR (r_A Bo Ro c) (Bo 0 c) := rfl
      omega
  · have c0' := cd.1 (by omega)
    have b0 := (o1.1 c c0 c3).1.1
    have e0 : p_SR (r_A Bo Ro c) (Bo 0 c) = 0 := by rw [show Bo 0 c = 0 by omega]; rfl
    refine ⟨by rw [(y5 c c0 c3).2, e0]; exact c0'.2.2.1, fun r r0 r1 => by omega, fun z => ⟨by rw [(y5 c c0 c3).1]; exact c0'.1, (mk.1 z).1⟩, fun z => absurd z q⟩
