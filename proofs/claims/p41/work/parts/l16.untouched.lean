/-! ===== class and law: what is the same as printed ===== -/
theorem s_told {B : pT} {R : c_R} : k_told B R = c_told B R := rfl
theorem s_cnt {tot was n : Int} {C C' : Int → Prop} (hn : 0 ≤ n) (hC : ∀ p, 1 ≤ p → p ≤ tot → p ≤ was → (C p ↔ C' p)) : u_cnt tot was C n = u_cnt tot was C' n := by
  refine p_sum_cg hn (fun s s0 s1 => ?_)
  have e : u_sh tot was C s ↔ u_sh tot was C' s := by
    unfold u_sh
    refine ⟨fun g p a b => ⟨(g p a b).1, fun t => (hC p (by omega) t ((g p a b).1.mp t)).mp ((g p a b).2 t)⟩, fun g p a b => ⟨(g p a b).1, fun t => (hC p (by omega) t ((g p a b).1.mp t)).mpr ((g p a b).2 t)⟩⟩
  show @ite Int (u_sh tot was C s) (Classical.propDecidable _) 1 0 = @ite Int (u_sh tot was C' s) (Classical.propDecidable _) 1 0
  by_cases q : u_sh tot was C s
  · rw [if_pos q, if_pos (e.mp q)]
  · rw [if_neg q, if_neg (fun z => q (e.mpr z))]
/-- a float of a chapter, in class and law -/
theorem s_float {A : pA} {cnt n c f : Int} {M N : qM} (hA : k_sz A cnt c) (hr : p_rows A cnt n M) (hz : k_fz A cnt c (p_SF A cnt) (p_SN A cnt) N) (hf : 0 ≤ f ∧ f < p_SF A cnt) : ∃ i w, (0 ≤ i ∧ i < cnt ∧ i ≤ 5) ∧ (0 ≤ w ∧ w ≤ 15) ∧ M 59 n f = (i * 20 + w) * 4 ∧ N 72 0 (4 * c + f) = w + 16 * i := by
  obtain ⟨i, w, a1, a2, a3, a4⟩ := p_float_ex hA.2.2.2.1.1 hf
  have x := (hr.2.1.2.2.2.2.2 i w a1.1 a2.1 a2.2 (Or.inl a1.2)).1 a3
  have y := hz.1 i w a1.1 a1.2 a2.1 a2.2 a3 (by omega)
  have n15 := hA.2.2.1 i a1.1 a1.2
  have n6 := hA.2.1
  rw [a4] at x y
  exact ⟨i, w, ⟨a1.1, a1.2, by omega⟩, ⟨a2.1, by omega⟩, x.1, y⟩
theorem s_note {A : pA} {cnt n c l : Int} {M N : qM} (hA : k_sz A cnt c) (hr : p_rows A cnt n M) (hz : k_fz A cnt c (p_SF A cnt) (p_SN A cnt) N) (hl : 0 ≤ l ∧ l < p_SN A cnt) : ∃ i w k, (0 ≤ i ∧ i < cnt ∧ i ≤ 5) ∧ (0 ≤ w ∧ w ≤ 15) ∧ (0 ≤ k ∧ k < 4) ∧ M 60 n l = (i * 20 + w) * 4 + k ∧ N 73 0 (12 * c + l) = k + 4 * w + 64 * i := by
  obtain ⟨i, w, k, a1, a2, a3, a4, a5⟩ := p_note_ex hA.2.2.2.1.1 hl
  have x := (hr.2.1.2.2.2.2.2 i w a1.1 a2.1 a2.2 (Or.inl a1.2)).2 a3 k a4.1 a4.2
  have y := hz.2.1 i w k a1.1 a1.2 a2.1 a2.2 a3 a4.1 a4.2 (by omega)
  have b := (hA.2.2.2.1.2.1 i w a1.1 a1.2 a2.1 a2.2).2 a3
  have n15 := hA.2.2.1 i a1.1 a1.2
  have n6 := hA.2.1
  rw [a5] at x
  rw [Int.add_assoc, a5] at y
  exact ⟨i, w, k, ⟨a1.1, a1.2, by omega⟩, ⟨a2.1, by omega⟩, ⟨a4.1, by omega⟩, x, y⟩
section
variable {B Bo : pT} {en e' L Lo : Int} {W Wo : Int → Int} {R Ro : c_R} {M N : qM}
theorem s_row_iff (hx : k_as B en W R L M) (pp : z_pp B Bo Wo Ro Lo e' M) (cp : l_cp Bo e' Wo Ro Lo N M) (om : k_om B Bo Ro M) {c s s' : Int} (hc : 0 ≤ c ∧ c < 3) (hN : 0 < B 0 c) (hNo : 0 < Bo 0 c) (hs : 0 ≤ s ∧ s < p_SR (r_A B R c) (B 0 c)) (hs' : 0 ≤ s' ∧ s' < p_SR (r_A Bo Ro c) (Bo 0 c)) : (p_srow M en e' c s s' ∧ u_txt M en e' c s) ↔ s_rw B R c (M 71 0 (20 * c + s) % 16384) (M 80 0 (20 * c + s') % 16384) M := by
  have hB := hx.1.1.1.1.1
  have hB2 := hx.1.1.1.1.2
  have zx := hx.1.1.2.2 hx.1.2
  obtain ⟨ob, B1, R1, out⟩ := zx.2.2.1
  obtain ⟨p1, p2, ⟨ob', B2, R2, out'⟩, p4, ed', rel, p7⟩ := pp
  have hBo := p2.1
  have ed := zx.2.2.2.1
  have sz : k_sz (r_A B R c) (B 0 c) c := (k_szA hB hx.2.1.1 out.1 hc).1
  have szo : k_sz (r_A Bo Ro c) (Bo 0 c) c := (k_szA hBo cp.1.1.2.1.1 out'.1 hc).1
  have rowM := k_row sz ((hx.2.2.2.2.2.1 c hc.1 hc.2).2 hN).2.1 (Int.le_refl _) hs
  have rowN := k_row szo ((cp.1.1.2.2.2.2.2.1 c hc.1 hc.2).2 hNo).2.1 (Int.le_refl _) hs'
  have qM := (((hx.2.2.2.2.2.1 c hc.1 hc.2).2 hN).2.1 s hs.1 hs.2).2
  have qN := (((cp.1.1.2.2.2.2.2.1 c hc.1 hc.2).2 hNo).2.1 s' hs'.1 hs'.2).2
  have ok := sz.2.2.2.1
  have oko := szo.2.2.2.1
  have t16 := sz.2.2.2.2
  have t16o := szo.2.2.2.2
  have e80 := cp.2.2.1 (20 * c + s') (by omega) (by omega)
  have row := (ed.1 c hc.1 hc.2).1.1.2.1 s hs.1 hs.2
  have rowo := (ed'.1 c hc.1 hc.2).1.1.2.1 s' hs'.1 hs'.2
  have e9 := (ed.1 c hc.1 hc.2).1.1.1
  have e9o := (ed'.1 c hc.1 hc.2).1.1.1
  have ri := p_row_in ok.1 hs
  have rio := p_row_in oko.1 hs'
  have tw := fun w => c_A_there (B := B) (L := r_L R) (E := r_E R) (c := c) (r := s) (w := w) ok.1 hc.1 hs
  have rA : c_A B (r_L R) (r_E R) c = r_A B R c := rfl
  rw [rA] at tw
  have bM := rowM.1
  have bN := rowN.1
  unfold p_srow s_rw s_tx u_txt
  rw [row.1, row.2.1, row.2.2.1, rowo.1, rowo.2.1, rowo.2.2.1, e9, e9o, e80, qM, qN]
  have x1 : (p_ri (r_A B R c) s + 16 * p_fr (r_A B R c) s + 512 * p_to (r_A B R c) s) % 16 = p_ri (r_A B R c) s := by omega
  have x2 : (p_ri (r_A B R c) s + 16 * p_fr (r_A B R c) s + 512 * p_to (r_A B R c) s) / 16 % 32 = p_fr (r_A B R c) s := by omega
  have x3 : (p_ri (r_A B R c) s + 16 * p_fr (r_A B R c) s + 512 * p_to (r_A B R c) s) / 512 % 32 = p_to (r_A B R c) s := by omega
  rw [x1, x2, x3]
  by_cases k1 : p_ri (r_A B R c) s = p_ri (r_A Bo Ro c) s' ∧ p_fr (r_A B R c) s = p_fr (r_A Bo Ro c) s' ∧ p_to (r_A B R c) s = p_to (r_A Bo Ro c) s'
  · have x0 : 0 ≤ 10 * c + p_ri (r_A B R c) s ∧ 10 * c + p_ri (r_A B R c) s < 30 := by omega
    have realB : (10 * c + p_ri (r_A B R c) s) % 10 < B 0 ((10 * c + p_ri (r_A B R c) s) / 10) := by rw [show (10 * c + p_ri (r_A B R c) s) / 10 = c by omega]; omega
    have realBo : (10 * c + p_ri (r_A B R c) s) % 10 < Bo 0 ((10 * c + p_ri (r_A B R c) s) / 10) := by rw [show (10 * c + p_ri (r_A B R c) s) / 10 = c by omega]; omega
    have s1 := ed.2.2.2.2.1 _ x0.1 x0.2 realB
    have s2 := ed'.2.2.2.2.1 _ x0.1 x0.2 realBo
    have s3 := om.2.2 c (p_ri (r_A B R c) s) hc.1 hc.2 (by omega) (by omega) (by omega)
    have it18 : 0 ≤ 6 * c + p_ri (r_A B R c) s ∧ 6 * c + p_ri (r_A B R c) s < 18 := by omega
    have kx : k_x (6 * c + p_ri (r_A B R c) s) = 10 * c + p_ri (r_A B R c) s := k_x_c hc ⟨by omega, by omega⟩
    rw [show c * 10 + p_ri (r_A B R c) s = 10 * c + p_ri (r_A B R c) s by omega, s1, s2, ← s3]
    by_cases k2 : B 7 (10 * c + p_ri (r_A B R c) s) = Bo 7 (10 * c + p_ri (r_A B R c) s)
    · have cont := rel.2 _ x0.1 x0.2 realBo k2
      have txt : ∀ w, p_fr (r_A B R c) s ≤ w → w < p_to (r_A B R c) s → ((M 25 en (200 * c + 20 * p_ri (r_A B R c) s + w) = M 25 e' (200 * c + 20 * p_ri (r_A B R c) s + w) ∧ M 26 en (200 * c + 20 * p_ri (r_A B R c) s + w) = M 26 e' (200 * c + 20 * p_ri (r_A B R c) s + w)) ↔ k_told B R (k_y (6 * c + p_ri (r_A B R c) s) w) = M 84 0 (M 83 0 (6 * c + p_ri (r_A B R c) s) + w)) := fun w w0 w1 => by
        have t := tw w ⟨w0, w1⟩
        have ky : k_y (6 * c + p_ri (r_A B R c) s) w = 200 * c + 20 * p_ri (r_A B R c) s + w := by unfold k_y; rw [kx]; omega
        have b6 : w < B 3 (10 * c + p_ri (r_A B R c) s) := by
          have := t.1.2
          rw [show (200 * c + 20 * p_ri (r_A B R c) s + w) % 20 = w by omega, show (200 * c + 20 * p_ri (r_A B R c) s + w) / 20 = 10 * c + p_ri (r_A B R c) s by omega] at this
          exact this
        have b6o : w < Bo 3 (10 * c + p_ri (r_A B R c) s) := by rw [← cont.2.1]; exact b6
        have to' : c_there Bo (200 * c + 20 * p_ri (r_A B R c) s + w) := by
          unfold c_there
          rw [show (200 * c + 20 * p_ri (r_A B R c) s + w) / 20 % 10 = p_ri (r_A B R c) s by omega, show (200 * c + 20 * p_ri (r_A B R c) s + w) / 200 = c by omega, show (200 * c + 20 * p_ri (r_A B R c) s + w) % 20 = w by omega, show (200 * c + 20 * p_ri (r_A B R c) s + w) / 20 = 10 * c + p_ri (r_A B R c) s by omega]
          exact ⟨by omega, b6o⟩
        have e1 := ed.2.2.1 _ (by omega) (by omega) t.1
        have e2 := ed'.2.2.1 _ (by omega) (by omega) to'
        have kk : c_K Bo (200 * c + 20 * p_ri (r_A B R c) s + w) = c_K B (200 * c + 20 * p_ri (r_A B R c) s + w) := by
          have c4 := (cont.2.2 w t.2.1.1 b6).1
          rw [show 20 * (10 * c + p_ri (r_A B R c) s) + w = 200 * c + 20 * p_ri (r_A B R c) s + w by omega] at c4
          have z1 : c_K Bo (200 * c + 20 * p_ri (r_A B R c) s + w) = Bo 4 (200 * c + 20 * p_ri (r_A B R c) s + w) := if_pos to'
          have z2 : c_K B (200 * c + 20 * p_ri (r_A B R c) s + w) = B 4 (200 * c + 20 * p_ri (r_A B R c) s + w) := if_pos t.1
          rw [z1, z2, c4]
        have px := cp.2.2.2.2.2.2.1 (6 * c + p_ri (r_A B R c) s) w it18.1 it18.2 (by omega) (by rw [kx]; exact b6o)
        have po := cp.2.2.2.2.2.1 (6 * c + p_ri (r_A B R c) s) it18.1 (by omega)
        rw [po, px, ky, e1.2.1, e1.2.2, e2.2.1, e2.2.2, kk]
        unfold k_told
        rw [kk]
        generalize c_K B (200 * c + 20 * p_ri (r_A B R c) s + w) = kd
        by_cases q6 : kd = 6
        · rw [if_pos q6, if_pos q6, if_pos q6, if_pos q6, if_neg (by omega), if_neg (by omega)]
          exact ⟨fun z => z.1, fun z => ⟨z, rfl⟩⟩
        · by_cases q2 : kd = 2
          · simp only [if_neg q6, if_pos q2]
            exact ⟨fun z => z.2, fun z => ⟨trivial, z⟩⟩
          · simp only [if_neg q6, if_neg q2]
            exact ⟨fun _ => trivial, fun _ => ⟨trivial, trivial⟩⟩
      exact ⟨fun z => ⟨by rw [k1.1, k1.2.1, k1.2.2], k2, fun w w0 w1 => (txt w w0 w1).mp (z.2 w w0 w1)⟩, fun z => ⟨⟨hs.2, hs'.2, k1.1, k1.2.1, k1.2.2, k2⟩, fun w w0 w1 => (txt w w0 w1).mpr (z.2.2 w w0 w1)⟩⟩
    · exact ⟨fun z => absurd z.1.2.2.2.2.2 k2, fun z => absurd z.2.1 k2⟩
  · refine ⟨fun z => absurd ⟨z.1.2.2.1, z.1.2.2.2.1, z.1.2.2.2.2.1⟩ k1, fun z => absurd ?_ k1⟩
    have := z.1
    omega
theorem s_fl_iff (hx : k_as B en W R L M) (pp : z_pp B Bo Wo Ro Lo e' M) (cp : l_cp Bo e' Wo Ro Lo N M) (om : k_om B Bo Ro M) {c f f' : Int} (hc : 0 ≤ c ∧ c < 3) (hN : 0 < B 0 c) (hNo : 0 < Bo 0 c) (hf : 0 ≤ f ∧ f < p_SF (r_A B R c) (B 0 c)) (hf' : 0 ≤ f' ∧ f' < p_SF (r_A Bo Ro c) (Bo 0 c)) : ((M 59 (1 + 3 * en + c) f = M 59 (1 + 3 * e' + c) f' ∧ M 23 en (c * 10 + M 59 (1 + 3 * en + c) f / 4 / 20) = M 23 e' (c * 10 + M 59 (1 + 3 * en + c) f / 4 / 20)) ↔ (M 72 0 (4 * c + f) = M 85 0 (4 * c + f') ∧ M 65 0 (6 * c + M 72 0 (4 * c + f) / 16) / 256 % 256 = M 82 0 (6 * c + M 72 0 (4 * c + f) / 16))) ∧ 0 ≤ M 72 0 (4 * c + f) ∧ M 72 0 (4 * c + f) / 16 < 6 := by
  have hB := hx.1.1.1.1.1
  have zx := hx.1.1.2.2 hx.1.2
  obtain ⟨ob, B1, R1, out⟩ := zx.2.2.1
  obtain ⟨p1, p2, ⟨ob', B2, R2, out'⟩, p4, ed', rel, p7⟩ := pp
  have hBo := p2.1
  have ed := zx.2.2.2.1
  have sz : k_sz (r_A B R c) (B 0 c) c := (k_szA hB hx.2.1.1 out.1 hc).1
  have szo : k_sz (r_A Bo Ro c) (Bo 0 c) c := (k_szA hBo cp.1.1.2.1.1 out'.1 hc).1
  obtain ⟨i, w, a1, a2, a3, a4⟩ := s_float sz (ed.1 c hc.1 hc.2).1 ((hx.2.2.2.2.2.1 c hc.1 hc.2).2 hN).2.2.1 hf
  obtain ⟨i', w', b1, b2, b3, b4⟩ := s_float szo (ed'.1 c hc.1 hc.2).1 ((cp.1.1.2.2.2.2.2.1 c hc.1 hc.2).2 hNo).2.2.1 hf'
  have l4 := szo.2.2.2.1.1.2.2.1
  have e85 := cp.2.2.2.2.2.2.2.1 (4 * c + f') (by omega) (by omega)
  rw [e85, a3, a4, b3, b4]
  refine ⟨?_, by omega, by omega⟩
  by_cases k : 20 * i + w = 20 * i' + w'
  · have ei : i = i' := by omega
    subst ei
    have ew : w = w' := by omega
    subst ew
    have x0 : 0 ≤ 10 * c + i ∧ 10 * c + i < 30 := by omega
    have realB : (10 * c + i) % 10 < B 0 ((10 * c + i) / 10) := by rw [show (10 * c + i) / 10 = c by omega]; omega
    have realBo : (10 * c + i) % 10 < Bo 0 ((10 * c + i) / 10) := by rw [show (10 * c + i) / 10 = c by omega]; omega
    have s1 := ed.2.2.2.2.1 _ x0.1 x0.2 realB
    have s2 := ed'.2.2.2.2.1 _ x0.1 x0.2 realBo
    have s3 := om.2.2 c i hc.1 hc.2 a1.1 a1.2.1 b1.2.1
    rw [show c * 10 + (i * 20 + w) * 4 / 4 / 20 = 10 * c + i by omega, show (w + 16 * i) / 16 = i by omega, s1, s2, s3]
    exact ⟨fun z => ⟨rfl, z.2⟩, fun z => ⟨rfl, z.2⟩⟩
  · exact ⟨fun z => absurd z.1 (by omega), fun z => absurd z.1 (by omega)⟩
theorem s_ln_iff (hx : k_as B en W R L M) (pp : z_pp B Bo Wo Ro Lo e' M) (cp : l_cp Bo e' Wo Ro Lo N M) (om : k_om B Bo Ro M) {c f f' : Int} (hc : 0 ≤ c ∧ c < 3) (hN : 0 < B 0 c) (hNo : 0 < Bo 0 c) (hf : 0 ≤ f ∧ f < p_SN (r_A B R c) (B 0 c)) (hf' : 0 ≤ f' ∧ f' < p_SN (r_A Bo Ro c) (Bo 0 c)) : ((M 60 (1 + 3 * en + c) f = M 60 (1 + 3 * e' + c) f' ∧ M 23 en (c * 10 + M 60 (1 + 3 * en + c) f / 4 / 20) = M 23 e' (c * 10 + M 60 (1 + 3 * en + c) f / 4 / 20)) ↔ (M 73 0 (12 * c + f) = M 86 0 (12 * c + f') ∧ M 65 0 (6 * c + M 73 0 (12 * c + f) / 64) / 256 % 256 = M 82 0 (6 * c + M 73 0 (12 * c + f) / 64))) ∧ 0 ≤ M 73 0 (12 * c + f) ∧ M 73 0 (12 * c + f) / 64 < 6 := by
  have hB := hx.1.1.1.1.1
  have zx := hx.1.1.2.2 hx.1.2
  obtain ⟨ob, B1, R1, out⟩ := zx.2.2.1
  obtain ⟨p1, p2, ⟨ob', B2, R2, out'⟩, p4, ed', rel, p7⟩ := pp
  have hBo := p2.1
  have ed := zx.2.2.2.1
  have sz : k_sz (r_A B R c) (B 0 c) c := (k_szA hB hx.2.1.1 out.1 hc).1
  have szo : k_sz (r_A Bo Ro c) (Bo 0 c) c := (k_szA hBo cp.1.1.2.1.1 out'.1 hc).1
  obtain ⟨i, w, k, a1, a2, a5, a3, a4⟩ := s_note sz (ed.1 c hc.1 hc.2).1 ((hx.2.2.2.2.2.1 c hc.1 hc.2).2 hN).2.2.1 hf
  obtain ⟨i', w', k', b1, b2, b5, b3, b4⟩ := s_note szo (ed'.1 c hc.1 hc.2).1 ((cp.1.1.2.2.2.2.2.1 c hc.1 hc.2).2 hNo).2.2.1 hf'
  have l12 := szo.2.2.2.1.1.2.2.2.1
  have e86 := cp.2.2.2.2.2.2.2.2 (12 * c + f') (by omega) (by omega)
  rw [e86, a3, a4, b3, b4]
  refine ⟨?_, by omega, by omega⟩
  by_cases q : 20 * i + w = 20 * i' + w' ∧ k = k'
  · have ei : i = i' := by omega
    subst ei
    have ew : w = w' := by omega
    subst ew
    have ek := q.2
    subst ek
    have x0 : 0 ≤ 10 * c + i ∧ 10 * c + i < 30 := by omega
    have realB : (10 * c + i) % 10 < B 0 ((10 * c + i) / 10) := by rw [show (10 * c + i) / 10 = c by omega]; omega
    have realBo : (10 * c + i) % 10 < Bo 0 ((10 * c + i) / 10) := by rw [show (10 * c + i) / 10 = c by omega]; omega
    have s1 := ed.2.2.2.2.1 _ x0.1 x0.2 realB
    have s2 := ed'.2.2.2.2.1 _ x0.1 x0.2 realBo
    have s3 := om.2.2 c i hc.1 hc.2 a1.1 a1.2.1 b1.2.1
    rw [show c * 10 + ((i * 20 + w) * 4 + k) / 4 / 20 = 10 * c + i by omega, show (k + 4 * w + 64 * i) / 64 = i by omega, s1, s2, s3]
    exact ⟨fun z => ⟨rfl, z.2⟩, fun z => ⟨rfl, z.2⟩⟩
  · exact ⟨fun z => absurd z.1 (by omega), fun z => absurd z.1 (by omega)⟩
/-- rows and pieces of a page, out of those of a chapter -/
theorem s_rows_x {P P' : pT} {c k j S S' : Int} (hk : 0 ≤ g_bf P 0 k ∧ P 0 k ≤ S) (hj : 0 ≤ g_bf P' 0 j ∧ P' 0 j ≤ S') (hi : ∀ s s', (0 ≤ s ∧ s < S) → (0 ≤ s' ∧ s' < S') → ((p_srow M en e' c s s' ∧ u_txt M en e' c s) ↔ s_rw B R c (M 71 0 (20 * c + s) % 16384) (M 80 0 (20 * c + s') % 16384) M)) : u_rows M P P' en e' c k j ↔ (P 0 k - g_bf P 0 k = P' 0 j - g_bf P' 0 j ∧ s_rs B R c (g_bf P 0 k) (g_bf P' 0 j) (P 0 k - g_bf P 0 k) M) := by
  unfold u_rows s_rs
  refine ⟨fun z => ⟨z.1, fun i i0 i1 => ?_⟩, fun z => ⟨z.1, fun i i0 i1 => ?_⟩⟩
  · have := (hi (g_bf P 0 k + i) (g_bf P' 0 j + i) ⟨by omega, by omega⟩ ⟨by omega, by have := z.1; omega⟩).mp (z.2 i i0 i1)
    rw [← Int.add_assoc, ← Int.add_assoc] at this
    exact this
  · refine (hi (g_bf P 0 k + i) (g_bf P' 0 j + i) ⟨by omega, by omega⟩ ⟨by omega, by have := z.1; omega⟩).mpr ?_
    rw [← Int.add_assoc, ← Int.add_assoc]
    exact z.2 i i0 i1
theorem s_fls_x {c f f' n S S' : Int} (hk : 0 ≤ f ∧ f + n ≤ S) (hj : 0 ≤ f' ∧ f' + n ≤ S') (hi : ∀ s s', (0 ≤ s ∧ s < S) → (0 ≤ s' ∧ s' < S') → ((M 59 (1 + 3 * en + c) s = M 59 (1 + 3 * e' + c) s' ∧ M 23 en (c * 10 + M 59 (1 + 3 * en + c) s / 4 / 20) = M 23 e' (c * 10 + M 59 (1 + 3 * en + c) s / 4 / 20)) ↔ (M 72 0 (4 * c + s) = M 85 0 (4 * c + s') ∧ M 65 0 (6 * c + M 72 0 (4 * c + s) / 16) / 256 % 256 = M 82 0 (6 * c + M 72 0 (4 * c + s) / 16)))) : u_pcs M 59 en e' c f f' n ↔ s_fl c f f' n M := by
  unfold u_pcs s_fl
  refine ⟨fun z i i0 i1 => ?_, fun z i i0 i1 => ?_⟩
  · have := (hi (f + i) (f' + i) ⟨by omega, by omega⟩ ⟨by omega, by omega⟩).mp (z i i0 i1)
    rw [← Int.add_assoc, ← Int.add_assoc] at this
    exact this
  · refine (hi (f + i) (f' + i) ⟨by omega, by omega⟩ ⟨by omega, by omega⟩).mpr ?_
    rw [← Int.add_assoc, ← Int.add_assoc]
    exact z i i0 i1
theorem s_lns_x {c f f' n S S' : Int} (hk : 0 ≤ f ∧ f + n ≤ S) (hj : 0 ≤ f' ∧ f' + n ≤ S') (hi : ∀ s s', (0 ≤ s ∧ s < S) → (0 ≤ s' ∧ s' < S') → ((M 60 (1 + 3 * en + c) s = M 60 (1 + 3 * e' + c) s' ∧ M 23 en (c * 10 + M 60 (1 + 3 * en + c) s / 4 / 20) = M 23 e' (c * 10 + M 60 (1 + 3 * en + c) s / 4 / 20)) ↔ (M 73 0 (12 * c + s) = M 86 0 (12 * c + s') ∧ M 65 0 (6 * c + M 73 0 (12 * c + s) / 64) / 256 % 256 = M 82 0 (6 * c + M 73 0 (12 * c + s) / 64)))) : u_pcs M 60 en e' c f f' n ↔ s_ln c f f' n M := by
  unfold u_pcs s_ln
  refine ⟨fun z i i0 i1 => ?_, fun z i i0 i1 => ?_⟩
  · have := (hi (f + i) (f' + i) ⟨by omega, by omega⟩ ⟨by omega, by omega⟩).mp (z i i0 i1)
    rw [← Int.add_assoc, ← Int.add_assoc] at this
    exact this
  · refine (hi (f + i) (f' + i) ⟨by omega, by omega⟩ ⟨by omega, by omega⟩).mpr ?_
    rw [← Int.add_assoc, ← Int.add_assoc]
    exact z i i0 i1
theorem s_le {a P S m : Int} (h : P ≤ S) (h' : S ≤ m) : a + (P - a) ≤ m := by omega
theorem s_le1 {a P S : Int} (h : P ≤ S) : a + (P - a) ≤ S := by omega
theorem s_le2 {a b P Q S : Int} (h : P ≤ S) (e : Q - b = P - a) : a + (Q - b) ≤ S := by omega
theorem s_lt {a P S i : Int} (h : P ≤ S) (i1 : i < P - a) : a + i < S := by omega
theorem s_nn {a i : Int} (h : 0 ≤ a) (i0 : 0 ≤ i) : 0 ≤ a + i := by omega
/-- what the rows of a chapter say -/
theorem s_rowb (hx : k_as B en W R L M) {c s : Int} (hc : 0 ≤ c ∧ c < 3) (hN : 0 < B 0 c) (hs : 0 ≤ s ∧ s < p_SR (r_A B R c) (B 0 c)) : M 71 0 (20 * c + s) % 16384 % 16 < 6 ∧ M 71 0 (20 * c + s) % 16384 / 16 % 32 ≤ M 71 0 (20 * c + s) % 16384 / 512 % 32 ∧ M 71 0 (20 * c + s) % 16384 / 512 % 32 ≤ B 3 (k_x (6 * c + M 71 0 (20 * c + s) % 16384 % 16)) := by
  have hB := hx.1.1.1.1.1
  have zx := hx.1.1.2.2 hx.1.2
  obtain ⟨ob, B1, R1, out⟩ := zx.2.2.1
  have sz : k_sz (r_A B R c) (B 0 c) c := (k_szA hB hx.2.1.1 out.1 hc).1
  obtain ⟨q1, q2, q3, q4⟩ := k_row sz ((hx.2.2.2.2.2.1 c hc.1 hc.2).2 hN).2.1 (Int.le_refl _) hs
  have a6' : r_A B R c 6 (p_ri (r_A B R c) s) 0 = B 3 (10 * c + p_ri (r_A B R c) s) := (k_A (B := B) (L := r_L R) (E := r_E R) (c := c) (k := 6) (i := p_ri (r_A B R c) s) (w := 0) ⟨q1.1.1, by omega⟩).2.2.2.2.2.2 rfl
  have kx : k_x (6 * c + p_ri (r_A B R c) s) = 10 * c + p_ri (r_A B R c) s := k_x_c hc ⟨q1.1.1, by omega⟩
  rw [show M 71 0 (20 * c + s) % 16384 % 16 = p_ri (r_A B R c) s by omega, show M 71 0 (20 * c + s) % 16384 / 16 % 32 = p_fr (r_A B R c) s by omega, show M 71 0 (20 * c + s) % 16384 / 512 % 32 = p_to (r_A B R c) s by omega, kx, ← a6']
  omega
theorem s_flb (hx : k_as B en W R L M) {c f : Int} (hc : 0 ≤ c ∧ c < 3) (hN : 0 < B 0 c) (hf : 0 ≤ f ∧ f < p_SF (r_A B R c) (B 0 c)) : 0 ≤ M 72 0 (4 * c + f) ∧ M 72 0 (4 * c + f) / 16 < 6 := by
  have hB := hx.1.1.1.1.1
  have zx := hx.1.1.2.2 hx.1.2
  obtain ⟨ob, B1, R1, out⟩ := zx.2.2.1
  have sz : k_sz (r_A B R c) (B 0 c) c := (k_szA hB hx.2.1.1 out.1 hc).1
  obtain ⟨i, w, a1, a2, a3, a4⟩ := s_float sz (zx.2.2.2.1.1 c hc.1 hc.2).1 ((hx.2.2.2.2.2.1 c hc.1 hc.2).2 hN).2.2.1 hf
  rw [a4]
  omega
theorem s_lnb (hx : k_as B en W R L M) {c f : Int} (hc : 0 ≤ c ∧ c < 3) (hN : 0 < B 0 c) (hf : 0 ≤ f ∧ f < p_SN (r_A B R c) (B 0 c)) : 0 ≤ M 73 0 (12 * c + f) ∧ M 73 0 (12 * c + f) / 64 < 6 := by
  have hB := hx.1.1.1.1.1
  have zx := hx.1.1.2.2 hx.1.2
  obtain ⟨ob, B1, R1, out⟩ := zx.2.2.1
  have sz : k_sz (r_A B R c) (B 0 c) c := (k_szA hB hx.2.1.1 out.1 hc).1
  obtain ⟨i, w, k, a1, a2, a5, a3, a4⟩ := s_note sz (zx.2.2.2.1.1 c hc.1 hc.2).1 ((hx.2.2.2.2.2.1 c hc.1 hc.2).2 hN).2.2.1 hf
  rw [a4]
  omega
/-- the bounds of a page of a chapter -/
theorem s_pgb (hx : k_as B en W R L M) {c k : Int} (hc : 0 ≤ c ∧ c < 3) (hN : 0 < B 0 c) (hk : 0 ≤ k ∧ k < w_ct (r_W R c)) : ((0 ≤ g_bf (w_P (r_W R c)) 0 k ∧ w_P (r_W R c) 0 k ≤ p_SR (r_A B R c) (B 0 c)) ∧ p_SR (r_A B R c) (B 0 c) ≤ 20) ∧ ((0 ≤ g_bf (w_P (r_W R c)) 1 k ∧ w_P (r_W R c) 1 k ≤ p_SF (r_A B R c) (B 0 c)) ∧ p_SF (r_A B R c) (B 0 c) ≤ 4) ∧ ((0 ≤ g_bf (w_P (r_W R c)) 2 k ∧ w_P (r_W R c) 2 k ≤ p_SN (r_A B R c) (B 0 c)) ∧ p_SN (r_A B R c) (B 0 c) ≤ 12) := by
  have hB := hx.1.1.1.1.1
  have zx := hx.1.1.2.2 hx.1.2
  obtain ⟨ob, B1, R1, out⟩ := zx.2.2.1
  have sz : k_sz (r_A B R c) (B 0 c) c := (k_szA hB hx.2.1.1 out.1 hc).1
  have r1 := k_pkr sz hB.2.2.2.2.2.2.2.1 ((z_mk hB zx hc).2 hN).2.2 hk
  have t16 : p_SR (r_A B R c) (B 0 c) ≤ 20 := by have := sz.2.2.2.2; omega
  exact ⟨⟨⟨r1.1.1.1, r1.1.2.2⟩, t16⟩, ⟨⟨r1.2.1.1.1, r1.2.1.2.2⟩, sz.2.2.2.1.1.2.2.1⟩, ⟨r1.2.2.1.1.1, r1.2.2.1.2.2⟩, sz.2.2.2.1.1.2.2.2.1⟩
/-- class: the kinds of a page -/
theorem s_kd (ed : c_edn B R (c_tot B R L) en M) {p u : Int} (k : u_kd M en (fun c => w_fi (r_W R c)) (fun c => w_ct (r_W R c)) p u) : z_kd B R p u := by
  have e3 := ed.2.2.2.1.2.2.2
  have e4 := ed.2.1
  unfold u_kd at k
  rw [e3, e4] at k
  exact k
theorem s_iff (hx : k_as B en W R L M) (ha : k_all B R L M) (pp : z_pp B Bo Wo Ro Lo e' M) (cp : l_cp Bo e' Wo Ro Lo N M) (om : k_om B Bo Ro M) {p : Int} (p1 : 1 ≤ p) (pt : p ≤ c_tot B R L) (pw : p ≤ c_tot Bo Ro Lo) : (u_C M R Ro en e' p ↔ s_pg B R M p) ∧ s_bd B M p := by
  have hB := hx.1.1.1.1.1
  have zx := hx.1.1.2.2 hx.1.2
  have ed := zx.2.2.2.1
  have ed' := pp.2.2.2.2.1
  obtain ⟨u, K1⟩ := u_kd_ex (M := M) (e := en) (p := p) (fi := fun c => w_fi (r_W R c)) (ct := fun c => w_ct (r_W R c))
  obtain ⟨u', K2⟩ := u_kd_ex (M := M) (e := e') (p := p) (fi := fun c => w_fi (r_W Ro c)) (ct := fun c => w_ct (r_W Ro c))
  have f1 := k_pf hx ha ⟨p1, pt⟩ (s_kd ed K1)
  have f2 := k_pf cp.1.1 cp.1.2.1 ⟨p1, pw⟩ (s_kd ed' K2)
  have e81 := cp.2.2.2.1 p (by omega) pw
  rw [← e81] at f2
  have uni : u_C M R Ro en e' p ↔ u_pg M (fun c => w_P (r_W R c)) (fun c => w_P (r_W Ro c)) (fun c => w_fi (r_W R c)) (fun c => w_fi (r_W Ro c)) en e' p u u' := by
    refine ⟨fun ⟨v, v', a, b, c⟩ => ?_, fun c => ⟨u, u', K1, K2, c⟩⟩
    have g1 := k_pf hx ha ⟨p1, pt⟩ (s_kd ed a)
    have g2 := k_pf cp.1.1 cp.1.2.1 ⟨p1, pw⟩ (s_kd ed' b)
    rw [← e81] at g2
    have n1 := f1.2.2.1
    have n2 := f2.2.2.1
    have n3 := g1.2.2.1
    have n4 := g2.2.2.1
    rw [show u = v by omega, show u' = v' by omega]
    exact c
  rw [uni]
  have k1 := f1.2.2.1
  have k2 := f2.2.2.1
  unfold s_pg s_bd u_pg
  rw [k1, k2]
  by_cases eu : u = u'
  · subst eu
    by_cases lt : u < 3
    · obtain ⟨N0, hc, kc, g1, g2, g3, g4, g5, g6, g7, _⟩ := f1.2.2.2.1 lt
      obtain ⟨N0', _, kc', g1', g2', g3', g4', g5', g6', g7', _⟩ := f2.2.2.2.1 lt
      have le2 : u ≤ 2 := by omega
      clear f1 f2 uni K1 K2
      obtain ⟨⟨r1, r2⟩, ⟨r3, r4⟩, ⟨r5, r6⟩⟩ := s_pgb hx hc N0 kc
      obtain ⟨⟨q1, q2⟩, ⟨q3, q4⟩, ⟨q5, q6⟩⟩ := s_pgb cp.1.1 hc N0' kc'
      have i1 := s_rows_x (k := p - w_fi (r_W R u)) (j := p - w_fi (r_W Ro u)) r1 q1 (fun s s' a b => s_row_iff hx pp cp om hc N0 N0' a b)
      rw [g1, g2, g3, g4, g5, g6, g7, g1', g2', g3', g4', g5', g6', g7']
      refine ⟨⟨fun z => ⟨rfl, fun _ => ?_⟩, fun z => ⟨rfl, fun _ => ?_⟩⟩, fun _ _ => ⟨⟨s_le r1.2 r2, s_le r3.2 r4, s_le r5.2 r6⟩, ⟨s_le q1.2 q2, s_le q3.2 q4, s_le q5.2 q6⟩, fun i i0 i1 => ?_, fun i i0 i1 => ?_, fun i i0 i1 => ?_⟩⟩
      · obtain ⟨z1, z2, ⟨z3, z4⟩, z5, z6⟩ := z.2 lt
        have y2 := i1.mp z2
        exact ⟨⟨z1, y2.1, z3, z5⟩, y2.2, (s_fls_x ⟨r3.1, s_le1 r3.2⟩ ⟨q3.1, s_le2 q3.2 z3⟩ (fun s s' a b => (s_fl_iff hx pp cp om hc N0 N0' a b).1)).mp z4, (s_lns_x ⟨r5.1, s_le1 r5.2⟩ ⟨q5.1, s_le2 q5.2 z5⟩ (fun s s' a b => (s_ln_iff hx pp cp om hc N0 N0' a b).1)).mp z6⟩
      · obtain ⟨⟨z1, z2, z3, z5⟩, za, zb, zc⟩ := z.2 le2
        exact ⟨z1, i1.mpr ⟨z2, za⟩, ⟨z3, (s_fls_x ⟨r3.1, s_le1 r3.2⟩ ⟨q3.1, s_le2 q3.2 z3⟩ (fun s s' a b => (s_fl_iff hx pp cp om hc N0 N0' a b).1)).mpr zb⟩, z5, (s_lns_x ⟨r5.1, s_le1 r5.2⟩ ⟨q5.1, s_le2 q5.2 z5⟩ (fun s s' a b => (s_ln_iff hx pp cp om hc N0 N0' a b).1)).mpr zc⟩
      · have := s_rowb hx hc N0 (s := g_bf (w_P (r_W R u)) 0 (p - w_fi (r_W R u)) + i) ⟨s_nn r1.1 i0, s_lt r1.2 i1⟩
        rw [← Int.add_assoc] at this
        exact this
      · have := s_flb hx hc N0 (f := g_bf (w_P (r_W R u)) 1 (p - w_fi (r_W R u)) + i) ⟨s_nn r3.1 i0, s_lt r3.2 i1⟩
        rw [← Int.add_assoc] at this
        exact this
      · have := s_lnb hx hc N0 (f := g_bf (w_P (r_W R u)) 2 (p - w_fi (r_W R u)) + i) ⟨s_nn r5.1 i0, s_lt r5.2 i1⟩
        rw [← Int.add_assoc] at this
        exact this
    · exact ⟨⟨fun _ => ⟨rfl, fun q => by omega⟩, fun _ => ⟨rfl, fun q => absurd q lt⟩⟩, fun q => by omega⟩
  · exact ⟨⟨fun z => absurd z.1 eu, fun z => absurd z.1 eu⟩, fun _ z => absurd z eu⟩
/-- untouched, class -/
theorem A186 {d : Nat} {h : qH} {F : Int → qH → qM → Prop} (hS : qSe h) (hx : k_as B en W R L M) (ha : k_all B R L M) (cp : l_cp Bo e' Wo Ro Lo N M) (pp : z_pp B Bo Wo Ro Lo e' M) (H : F (u_cnt (c_tot B R L) (c_tot Bo Ro Lo) (u_C M R Ro en e') (((if c_tot B R L < c_tot Bo Ro Lo then c_tot Bo Ro Lo else c_tot B R L) + 3) / 4)) h M) : e186 (d + 7) h M F := by
  have hB := hx.1.1.1.1.1
  have zx := hx.1.1.2.2 hx.1.2
  obtain ⟨ob, B1, R1, out⟩ := zx.2.2.1
  obtain ⟨p1, p2, ⟨ob', B2, R2, out'⟩, p4, ed', rel, p7⟩ := pp
  have hBo := p2.1
  have ed := zx.2.2.2.1
  have tb := c_tot_b hB out zx.2.1
  have tbo := c_tot_b hBo out' p4
  have pb := c_p0_b hB
  have pbo := c_p0_b hBo
  obtain ⟨e0, h8, he⟩ := hx.1.1.1.2.2.2
  have e8 := zx.1
  have nz : M 10 0 9 ≠ 0 := by omega
  refine W186 (t132 hS (C := u_C M R Ro en e') (e' := e') (was := c_tot Bo Ro Lo) (en := en) (tot := c_tot B R L) e8 (Or.inr ⟨p1.1, by omega⟩) (by omega) ed.2.2.2.2.2 (fun _ => ed'.2.2.2.2.2) ⟨by omega, by omega⟩ (fun _ => ⟨by omega, by omega⟩) (fun _ p F p1 pt pw c1 c0 => ?_) (fun z => absurd z hx.1.2) (fun _ => ?_))
  · refine t31 hS (P := fun c => w_P (r_W R c)) (P' := fun c => w_P (r_W Ro c)) (fi := fun c => w_fi (r_W R c)) (fi' := fun c => w_fi (r_W Ro c)) (ct := fun c => w_ct (r_W R c)) (ct' := fun c => w_ct (r_W Ro c)) (fun c a b => ⟨y_8g hB out zx.2.1 ed c a b, y_8g hBo out' p4 ed' c a b⟩) (fun c a b => ⟨c_ch_ed hB out ⟨a, b⟩ (ed.1 c a b), c_ch_ed hBo out' ⟨a, b⟩ (ed'.1 c a b)⟩) ⟨by omega, by omega⟩ (fun u u' k1 k2 pg => c1 ⟨u, u', k1, k2, pg⟩) (fun u u' k1 k2 npg => c0 (fun ⟨v, v', a, b, c⟩ => npg ?_))
    have g1 := k_pf hx ha ⟨p1, pt⟩ (s_kd ed k1)
    have g2 := k_pf hx ha ⟨p1, pt⟩ (s_kd ed a)
    have g3 := k_pf cp.1.1 cp.1.2.1 ⟨p1, pw⟩ (s_kd ed' k2)
    have g4 := k_pf cp.1.1 cp.1.2.1 ⟨p1, pw⟩ (s_kd ed' b)
    have n1 := g1.2.2.1
    have n2 := g2.2.2.1
    have n3 := g3.2.2.1
    have n4 := g4.2.2.1
    rw [show u = v by omega, show u' = v' by omega]
    exact c
  · rw [if_neg nz]
    exact H
end
