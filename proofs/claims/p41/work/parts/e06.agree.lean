/-! ===== a page is the same: class and model agree ===== -/
theorem u_kind {B : pT} {W : Int → Int} {ob : Prop} {Bo : pT} {Ro R : c_R} {L en p u : Int} {M M' : qM} (hB : c_ok B) (h : c_out B W ob Bo Ro (c_p0 B) R) (hL : 0 ≤ L ∧ L ≤ 1000) (he : c_edn B R (c_tot B R L) en M) (hm : m_now B W R L M') (hp : 1 ≤ p ∧ p ≤ c_tot B R L) (hu : u_kd M en (fun c => w_fi (r_W R c)) (fun c => w_ct (r_W R c)) p u) : M' 105 0 p = u := by
  have tb := c_tot_b hB h hL
  obtain ⟨n1, n2, n3, n4, n5, n6⟩ := hm
  have e3 := he.2.2.2.1.2.2.2
  have e4 := he.2.1
  have la : c_la (r_W R) (c_p0 B) (3 : Int).toNat = c_lal B R := rfl
  have ctN : ∀ c, 0 ≤ c → c < 3 → (w_fi (r_W R c) ≤ p ∧ p < w_fi (r_W R c) + w_ct (r_W R c)) → 0 < B 0 c := fun c a b q => Classical.byContradiction fun z => by
    have := ((h.2 c a b).1.1 (by omega)).2.1
    have := ((h.2 c a b).1.1 (by omega)).1
    omega
  rcases hu with ⟨z1, z2⟩ | ⟨z1, z2, z3⟩ | ⟨z1, z2, z3⟩
  · rw [e3] at z1
    rcases n3 p hp.1 (by rw [la]; omega) with y | ⟨c', y1, y2, y3, y4, y5⟩ | ⟨y1, y2, y3⟩
    · rw [y.2, z2]
    · have := c_fi_la hB h y1 y2; omega
    · omega
  · have z3' : w_fi (r_W R u) ≤ p ∧ p < w_fi (r_W R u) + w_ct (r_W R u) := z3
    have N0 := ctN u z2.1 z2.2 z3'
    have pg := (((n1.2 u z2.1 z2.2).2 N0).2.1 (p - w_fi (r_W R u)) (by omega) (by omega)).1.1
    rw [show w_fi (r_W R u) - 1 + 1 + (p - w_fi (r_W R u)) = p by omega] at pg
    exact pg
  · rw [e3] at z1
    rw [e4] at z3
    by_cases l : p ≤ c_lal B R
    · rw [if_pos l] at z3
      rcases n3 p hp.1 (by rw [la]; omega) with y | ⟨c', y1, y2, y3, y4, y5⟩ | ⟨y1, y2, y3⟩
      · omega
      · exact absurd ⟨y3, y4⟩ (z2 c' y1.1 y1.2)
      · rw [y2, z3]
    · rw [if_neg l] at z3
      rw [n4 p (by omega) hp.2, z3]
theorem u_row_iff {B Bo : pT} {W Wo : Int → Int} {ob ob' : Prop} {B1 B2 : pT} {R1 R2 R Ro : c_R} {L Lo en e' c s s' : Int} {M M' N : qM} (hB : c_ok B) (h : c_out B W ob B1 R1 (c_p0 B) R) (hBo : c_ok Bo) (ho : c_out Bo Wo ob' B2 R2 (c_p0 Bo) Ro) (he : c_edn B R (c_tot B R L) en M) (he' : c_edn Bo Ro (c_tot Bo Ro Lo) e' M) (hm : m_ed0 B R M') (hn : m_ed0 Bo Ro N) (hy : m_cpy Bo Ro (c_tot Bo Ro Lo) N M') (hr : c_rel B Bo) (hst : ∀ x, 0 ≤ x → x < 30 → x % 10 < Bo 0 (x / 10) → (M' 68 0 x = M' 120 0 x ↔ B 7 x = Bo 7 x)) (hc : 0 ≤ c ∧ c < 3) (hN : 0 < B 0 c) (hNo : 0 < Bo 0 c) (hs : 0 ≤ s ∧ s < p_SR (r_A B R c) (B 0 c)) (hs' : 0 ≤ s' ∧ s' < p_SR (r_A Bo Ro c) (Bo 0 c)) : (p_srow M en e' c s s' ∧ u_txt M en e' c s) ↔ u_mrow B R M' c (70 * c + s) (70 * c + s') := by
  have ok : p_okB (r_A B R c) (B 0 c) := c_okB hB h.1 hc
  have oko : p_okB (r_A Bo Ro c) (Bo 0 c) := c_okB hBo ho.1 hc
  have n10 := ok.1.1
  have n10o := oko.1.1
  have row := (he.1 c hc.1 hc.2).1.1.2.1 s hs.1 hs.2
  have rowo := (he'.1 c hc.1 hc.2).1.1.2.1 s' hs'.1 hs'.2
  have e9 := (he.1 c hc.1 hc.2).1.1.1
  have e9o := (he'.1 c hc.1 hc.2).1.1.1
  have mr := ((hm.2 c hc.1 hc.2).2 hN).1.2 s hs.1 hs.2
  have mro := ((hn.2 c hc.1 hc.2).2 hNo).1.2 s' hs'.1 hs'.2
  have t67 := ok.2.2
  have t67o := oko.2.2
  have cp := hy.2.2.2.1 (70 * c + s') (by omega) (by omega)
  have ri := p_row_in ok.1 hs
  have rio := p_row_in oko.1 hs'
  have tw := fun w => c_A_there (B := B) (L := r_L R) (E := r_E R) (c := c) (r := s) (w := w) ok.1 hc.1 hs
  have rA : c_A B (r_L R) (r_E R) c = r_A B R c := rfl
  rw [rA] at tw
  unfold p_srow u_mrow u_txt
  rw [row.1, row.2.1, row.2.2.1, rowo.1, rowo.2.1, rowo.2.2.1, mr.1, mr.2.2.1, mr.2.2.2.1, cp.1, cp.2.1, cp.2.2, mro.1, mro.2.2.1, mro.2.2.2.1, e9, e9o]
  by_cases k1 : p_ri (r_A B R c) s = p_ri (r_A Bo Ro c) s' ∧ p_fr (r_A B R c) s = p_fr (r_A Bo Ro c) s' ∧ p_to (r_A B R c) s = p_to (r_A Bo Ro c) s'
  · have x0 : 0 ≤ 10 * c + p_ri (r_A B R c) s ∧ 10 * c + p_ri (r_A B R c) s < 30 := by omega
    have realB : (10 * c + p_ri (r_A B R c) s) % 10 < B 0 ((10 * c + p_ri (r_A B R c) s) / 10) := by rw [show (10 * c + p_ri (r_A B R c) s) / 10 = c by omega]; omega
    have realBo : (10 * c + p_ri (r_A B R c) s) % 10 < Bo 0 ((10 * c + p_ri (r_A B R c) s) / 10) := by rw [show (10 * c + p_ri (r_A B R c) s) / 10 = c by omega]; omega
    have s1 := he.2.2.2.2.1 _ x0.1 x0.2 realB
    have s2 := he'.2.2.2.2.1 _ x0.1 x0.2 realBo
    have s3 := hst _ x0.1 x0.2 realBo
    rw [show c * 10 + p_ri (r_A B R c) s = 10 * c + p_ri (r_A B R c) s by omega, s1, s2, s3]
    by_cases k2 : B 7 (10 * c + p_ri (r_A B R c) s) = Bo 7 (10 * c + p_ri (r_A B R c) s)
    · have cont := hr.2 _ x0.1 x0.2 realBo k2
      have txt : ∀ w, p_fr (r_A B R c) s ≤ w → w < p_to (r_A B R c) s → ((M 25 en (200 * c + 20 * p_ri (r_A B R c) s + w) = M 25 e' (200 * c + 20 * p_ri (r_A B R c) s + w) ∧ M 26 en (200 * c + 20 * p_ri (r_A B R c) s + w) = M 26 e' (200 * c + 20 * p_ri (r_A B R c) s + w)) ↔ c_told B R (200 * c + 20 * p_ri (r_A B R c) s + w) = M' 124 0 (200 * c + 20 * p_ri (r_A B R c) s + w)) := fun w w0 w1 => by
        have t := tw w ⟨w0, w1⟩
        have b6 : w < B 3 (10 * c + p_ri (r_A B R c) s) := by
          have := t.1.2
          rw [show (200 * c + 20 * p_ri (r_A B R c) s + w) % 20 = w by omega, show (200 * c + 20 * p_ri (r_A B R c) s + w) / 20 = 10 * c + p_ri (r_A B R c) s by omega] at this
          exact this
        have to' : c_there Bo (200 * c + 20 * p_ri (r_A B R c) s + w) := by
          unfold c_there
          rw [show (200 * c + 20 * p_ri (r_A B R c) s + w) / 20 % 10 = p_ri (r_A B R c) s by omega, show (200 * c + 20 * p_ri (r_A B R c) s + w) / 200 = c by omega, show (200 * c + 20 * p_ri (r_A B R c) s + w) % 20 = w by omega, show (200 * c + 20 * p_ri (r_A B R c) s + w) / 20 = 10 * c + p_ri (r_A B R c) s by omega]
          exact ⟨by omega, by rw [← cont.2.1]; exact b6⟩
        have e1 := he.2.2.1 _ (by omega) (by omega) t.1
        have e2 := he'.2.2.1 _ (by omega) (by omega) to'
        have kk : c_K Bo (200 * c + 20 * p_ri (r_A B R c) s + w) = c_K B (200 * c + 20 * p_ri (r_A B R c) s + w) := by
          have c4 := (cont.2.2 w t.2.1.1 b6).1
          rw [show 20 * (10 * c + p_ri (r_A B R c) s) + w = 200 * c + 20 * p_ri (r_A B R c) s + w by omega] at c4
          have z1 : c_K Bo (200 * c + 20 * p_ri (r_A B R c) s + w) = Bo 4 (200 * c + 20 * p_ri (r_A B R c) s + w) := if_pos to'
          have z2 : c_K B (200 * c + 20 * p_ri (r_A B R c) s + w) = B 4 (200 * c + 20 * p_ri (r_A B R c) s + w) := if_pos t.1
          rw [z1, z2, c4]
        rw [e1.2.1, e1.2.2, e2.2.1, e2.2.2, hy.2.2.2.2.1 _ (by omega) (by omega), kk]
        unfold c_told
        rw [kk]
        generalize c_K B (200 * c + 20 * p_ri (r_A B R c) s + w) = kd
        by_cases q6 : kd = 6
        · rw [if_pos q6, if_pos q6, if_pos q6, if_pos q6, if_neg (by omega), if_neg (by omega)]
          exact ⟨fun z => z.1, fun z => ⟨z, rfl⟩⟩
        · by_cases q2 : kd = 2
          · simp only [if_neg q6, if_pos q2]
            exact ⟨fun z => z.2, fun z => ⟨trivial, z⟩⟩
          · simp only [if_neg q6, if_neg q2]
            exact ⟨fun _ => trivial, fun _ => ⟨trivial, trivial⟩⟩
      exact ⟨fun z => ⟨k1, k2, fun w w0 w1 => (txt w w0 w1).mp (z.2 w w0 w1)⟩, fun z => ⟨⟨hs.2, hs'.2, k1.1, k1.2.1, k1.2.2, k2⟩, fun w w0 w1 => (txt w w0 w1).mpr (z.2.2 w w0 w1)⟩⟩
    · exact ⟨fun z => absurd z.1.2.2.2.2.2 k2, fun z => absurd z.2.1 k2⟩
  · exact ⟨fun z => absurd ⟨z.1.2.2.1, z.1.2.2.2.1, z.1.2.2.2.2.1⟩ k1, fun z => absurd z.1 k1⟩
theorem u_fl_iff {B Bo : pT} {W Wo : Int → Int} {ob ob' : Prop} {B1 B2 : pT} {R1 R2 R Ro : c_R} {L Lo en e' c f f' : Int} {M M' N : qM} (hB : c_ok B) (h : c_out B W ob B1 R1 (c_p0 B) R) (hBo : c_ok Bo) (ho : c_out Bo Wo ob' B2 R2 (c_p0 Bo) Ro) (he : c_edn B R (c_tot B R L) en M) (he' : c_edn Bo Ro (c_tot Bo Ro Lo) e' M) (hm : m_ed0 B R M') (hn : m_ed0 Bo Ro N) (hy : m_cpy Bo Ro (c_tot Bo Ro Lo) N M') (hst : ∀ x, 0 ≤ x → x < 30 → x % 10 < Bo 0 (x / 10) → (M' 68 0 x = M' 120 0 x ↔ B 7 x = Bo 7 x)) (hc : 0 ≤ c ∧ c < 3) (hN : 0 < B 0 c) (hNo : 0 < Bo 0 c) (hf : 0 ≤ f ∧ f < p_SF (r_A B R c) (B 0 c)) (hf' : 0 ≤ f' ∧ f' < p_SF (r_A Bo Ro c) (Bo 0 c)) : (M 59 (1 + 3 * en + c) f = M 59 (1 + 3 * e' + c) f' ∧ M 23 en (c * 10 + M 59 (1 + 3 * en + c) f / 4 / 20) = M 23 e' (c * 10 + M 59 (1 + 3 * en + c) f / 4 / 20)) ↔ u_mfl M' (4 * c + f) (4 * c + f') := by
  have ok : p_okB (r_A B R c) (B 0 c) := c_okB hB h.1 hc
  have oko : p_okB (r_A Bo Ro c) (Bo 0 c) := c_okB hBo ho.1 hc
  obtain ⟨i, w, a1, a2, a3, a4, a5⟩ := c_float ok (he.1 c hc.1 hc.2).1 ((hm.2 c hc.1 hc.2).2 hN).2.2.2.2.2 hf
  obtain ⟨i', w', b1, b2, b3, b4, b5⟩ := c_float oko (he'.1 c hc.1 hc.2).1 ((hn.2 c hc.1 hc.2).2 hNo).2.2.2.2.2 hf'
  have h6 := p_okA_6 ok.1 a1
  have h6o := p_okA_6 oko.1 b1
  have l4 := oko.1.2.2.1
  have n10 := ok.1.1
  have cp := hy.2.2.2.2.2.1 (4 * c + f') (by omega) (by omega)
  unfold u_mfl
  rw [cp, a4, b4, a5, b5]
  by_cases k : 20 * i + w = 20 * i' + w'
  · have ei : i = i' := by omega
    subst ei
    have x0 : 0 ≤ 10 * c + i ∧ 10 * c + i < 30 := by omega
    have realB : (10 * c + i) % 10 < B 0 ((10 * c + i) / 10) := by rw [show (10 * c + i) / 10 = c by omega]; omega
    have realBo : (10 * c + i) % 10 < Bo 0 ((10 * c + i) / 10) := by rw [show (10 * c + i) / 10 = c by omega]; omega
    have s1 := he.2.2.2.2.1 _ x0.1 x0.2 realB
    have s2 := he'.2.2.2.2.1 _ x0.1 x0.2 realBo
    have s3 := hst _ x0.1 x0.2 realBo
    rw [show c * 10 + (i * 20 + w) * 4 / 4 / 20 = 10 * c + i by omega, show (200 * c + 20 * i + w) / 20 = 10 * c + i by omega, s1, s2, s3]
    exact ⟨fun z => ⟨by omega, z.2⟩, fun z => ⟨by omega, z.2⟩⟩
  · exact ⟨fun z => absurd z.1 (by omega), fun z => absurd z.1 (by omega)⟩
theorem u_ln_iff {B Bo : pT} {W Wo : Int → Int} {ob ob' : Prop} {B1 B2 : pT} {R1 R2 R Ro : c_R} {L Lo en e' c f f' : Int} {M M' N : qM} (hB : c_ok B) (h : c_out B W ob B1 R1 (c_p0 B) R) (hBo : c_ok Bo) (ho : c_out Bo Wo ob' B2 R2 (c_p0 Bo) Ro) (he : c_edn B R (c_tot B R L) en M) (he' : c_edn Bo Ro (c_tot Bo Ro Lo) e' M) (hm : m_ed0 B R M') (hn : m_ed0 Bo Ro N) (hy : m_cpy Bo Ro (c_tot Bo Ro Lo) N M') (hst : ∀ x, 0 ≤ x → x < 30 → x % 10 < Bo 0 (x / 10) → (M' 68 0 x = M' 120 0 x ↔ B 7 x = Bo 7 x)) (hc : 0 ≤ c ∧ c < 3) (hN : 0 < B 0 c) (hNo : 0 < Bo 0 c) (hf : 0 ≤ f ∧ f < p_SN (r_A B R c) (B 0 c)) (hf' : 0 ≤ f' ∧ f' < p_SN (r_A Bo Ro c) (Bo 0 c)) : (M 60 (1 + 3 * en + c) f = M 60 (1 + 3 * e' + c) f' ∧ M 23 en (c * 10 + M 60 (1 + 3 * en + c) f / 4 / 20) = M 23 e' (c * 10 + M 60 (1 + 3 * en + c) f / 4 / 20)) ↔ u_mln M' (12 * c + f) (12 * c + f') := by
  have ok : p_okB (r_A B R c) (B 0 c) := c_okB hB h.1 hc
  have oko : p_okB (r_A Bo Ro c) (Bo 0 c) := c_okB hBo ho.1 hc
  obtain ⟨i, w, k, a1, a2, a3, a4, a5, a6⟩ := c_note ok (he.1 c hc.1 hc.2).1 ((hm.2 c hc.1 hc.2).2 hN).2.2.2.2.2 hf
  obtain ⟨i', w', k', b1, b2, b3, b4, b5, b6⟩ := c_note oko (he'.1 c hc.1 hc.2).1 ((hn.2 c hc.1 hc.2).2 hNo).2.2.2.2.2 hf'
  have h6 := p_okA_6 ok.1 a1
  have h6o := p_okA_6 oko.1 b1
  have l12 := oko.1.2.2.2.1
  have n10 := ok.1.1
  have cp := hy.2.2.2.2.2.2.1 (12 * c + f') (by omega) (by omega)
  unfold u_mln
  rw [cp.1, cp.2, a4, b4, a5, b5, a6, b6]
  by_cases q : 20 * i + w = 20 * i' + w' ∧ k = k'
  · have ei : i = i' := by omega
    subst ei
    have x0 : 0 ≤ 10 * c + i ∧ 10 * c + i < 30 := by omega
    have realB : (10 * c + i) % 10 < B 0 ((10 * c + i) / 10) := by rw [show (10 * c + i) / 10 = c by omega]; omega
    have realBo : (10 * c + i) % 10 < Bo 0 ((10 * c + i) / 10) := by rw [show (10 * c + i) / 10 = c by omega]; omega
    have s1 := he.2.2.2.2.1 _ x0.1 x0.2 realB
    have s2 := he'.2.2.2.2.1 _ x0.1 x0.2 realBo
    have s3 := hst _ x0.1 x0.2 realBo
    rw [show c * 10 + ((i * 20 + w) * 4 + k) / 4 / 20 = 10 * c + i by omega, show (200 * c + 20 * i + w) / 20 = 10 * c + i by omega, s1, s2, s3]
    exact ⟨fun z => ⟨⟨by omega, q.2⟩, z.2⟩, fun z => ⟨by omega, z.2⟩⟩
  · exact ⟨fun z => absurd z.1 (by omega), fun z => absurd (⟨by omega, z.1.2⟩ : 20 * i + w = 20 * i' + w' ∧ k = k') q⟩
