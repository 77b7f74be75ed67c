/-! ===== FacingleafModel.isPageSame is the class' hasSamePage ===== -/
theorem c_pgb {B : pT} {W : Int → Int} {ob : Prop} {Bo : pT} {Ro R : c_R} {c : Int} (hB : c_ok B) (h : c_out B W ob Bo Ro (c_p0 B) R) (hc : 0 ≤ c ∧ c < 3) : ∀ k, 0 ≤ k → k < w_ct (r_W R c) → 0 < B 0 c ∧ (0 ≤ g_bf (w_P (r_W R c)) 0 k ∧ g_bf (w_P (r_W R c)) 0 k ≤ w_P (r_W R c) 0 k ∧ w_P (r_W R c) 0 k ≤ p_SR (r_A B R c) (B 0 c)) ∧ (0 ≤ g_bf (w_P (r_W R c)) 1 k ∧ g_bf (w_P (r_W R c)) 1 k ≤ w_P (r_W R c) 1 k ∧ w_P (r_W R c) 1 k ≤ p_SF (r_A B R c) (B 0 c)) ∧ (0 ≤ g_bf (w_P (r_W R c)) 2 k ∧ g_bf (w_P (r_W R c)) 2 k ≤ w_P (r_W R c) 2 k ∧ w_P (r_W R c) 2 k ≤ p_SN (r_A B R c) (B 0 c)) := fun k k0 k1 => by
  have ok : p_okB (r_A B R c) (B 0 c) := c_okB hB h.1 hc
  have mk := (h.2 c hc.1 hc.2).1
  have hD := hB.2.2.2.2.2.2.2.1
  have N0 : 0 < B 0 c := Classical.byContradiction fun y => by have := (mk.1 (by omega)).2.1; omega
  have pg : g_pages (p_T (r_A B R c) (B 0 c) (B 8 1)) (w_P (r_W R c)) (w_ct (r_W R c)) (w_wr (r_W R c)) := (mk.2 N0).2.2
  have hT := p_T_tab (D := B 8 1) ok hD
  have up := g_pages_up pg k k0 k1
  have at' := pg.2.2.2.2.1 k k0 (by omega)
  have an := pg.2.2.2.2.1 (k + 1) (by omega) (by omega)
  have e0 : g_bf (w_P (r_W R c)) 0 (k + 1) = w_P (r_W R c) 0 k := g_bf_s k0
  have e1 : g_bf (w_P (r_W R c)) 1 (k + 1) = w_P (r_W R c) 1 k := g_bf_s k0
  have e2 : g_bf (w_P (r_W R c)) 2 (k + 1) = w_P (r_W R c) 2 k := g_bf_s k0
  rw [e0, e1, e2] at an
  have t1 := g_tab_at hT an.1
  have t3 := g_tab_at hT at'.1
  have e8 := p_T_8 (A := r_A B R c) (cnt := B 0 c) (D := B 8 1)
  have a1 := at'.1
  have a2 := at'.2.1
  have a3 := at'.2.2
  have b1 := an.2.1
  have b2 := an.2.2
  refine ⟨N0, ?_⟩
  by_cases q : k < w_wr (r_W R c)
  · have p3 := g_pages_3 hT pg (k := k) ⟨k0, q⟩
    omega
  · obtain ⟨z0, z1, z2, z3, z4⟩ := pg.2.2.1 k (by omega) k1
    have i6 := pg.2.2.2.1 k (by omega) (by omega)
    rw [i6] at a2 a3 t3
    have ends := hT.2.2.2.2.2.1
    have bf := (g_bF_p hT (f := g_bf (w_P (r_W R c)) 1 k) (by omega)).1
    have bl := (g_b_go hT (f := g_bf (w_P (r_W R c)) 1 k) (n := g_bf (w_P (r_W R c)) 2 k) (by omega) (by have := t3.2.2.2; omega)).1
    omega
def u_C (M : qM) (R Ro : c_R) (en e' p : Int) : Prop := ∃ u u', u_kd M en (fun c => w_fi (r_W R c)) (fun c => w_ct (r_W R c)) p u ∧ u_kd M e' (fun c => w_fi (r_W Ro c)) (fun c => w_ct (r_W Ro c)) p u' ∧ u_pg M (fun c => w_P (r_W R c)) (fun c => w_P (r_W Ro c)) (fun c => w_fi (r_W R c)) (fun c => w_fi (r_W Ro c)) en e' p u u'
theorem u_kd_ex {M : qM} {e p : Int} {fi ct : Int → Int} : ∃ u, u_kd M e fi ct p u := by
  by_cases q : p ≤ M 3 e 3
  · exact ⟨3, Or.inl ⟨q, rfl⟩⟩
  · by_cases q2 : ∃ c, (0 ≤ c ∧ c < 3) ∧ (fi c ≤ p ∧ p < fi c + ct c)
    · obtain ⟨c, a, b⟩ := q2
      exact ⟨c, Or.inr (Or.inl ⟨by omega, a, b⟩)⟩
    · exact ⟨_, Or.inr (Or.inr ⟨by omega, fun c a b z => q2 ⟨c, ⟨a, b⟩, z⟩, rfl⟩)⟩
theorem t262u {d : Nat} {h : qH} (hS : qSe h) {B Bo : pT} {W Wo : Int → Int} {ob ob' : Prop} {B1 B2 : pT} {R1 R2 R Ro : c_R} {L Lo en e' p : Int} {M M' N : qM} {F : Int → qM → Prop} (hB : c_ok B) (hB2 : c_ok2 B) (ho1 : c_out B W ob B1 R1 (c_p0 B) R) (hL : 0 ≤ L ∧ L ≤ 1000) (hBo : c_ok Bo) (ho : c_out Bo Wo ob' B2 R2 (c_p0 Bo) Ro) (hLo : 0 ≤ Lo ∧ Lo ≤ 1000) (he : c_edn B R (c_tot B R L) en M) (he' : c_edn Bo Ro (c_tot Bo Ro Lo) e' M) (hm : m_now B W R L M') (hbk : m_bk B M') (hn : m_now Bo Wo Ro Lo N) (hy : m_cpy Bo Ro (c_tot Bo Ro Lo) N M') (hr : c_rel B Bo) (hst : ∀ x, 0 ≤ x → x < 30 → x % 10 < Bo 0 (x / 10) → (M' 68 0 x = M' 120 0 x ↔ B 7 x = Bo 7 x)) (hp : 1 ≤ p ∧ p < 400)
    (H1 : (p ≤ c_tot B R L ∧ p ≤ c_tot Bo Ro Lo ∧ u_C M R Ro en e' p) → F 1 M') (H0 : ¬ (p ≤ c_tot B R L ∧ p ≤ c_tot Bo Ro Lo ∧ u_C M R Ro en e' p) → F 0 M') : e262 (d + 6) h p M' F := by
  have e58 := hm.2.1
  have e74 := hy.1.2.1
  refine w262 hS ⟨fun p1 => ⟨fun p2 => ⟨⟨by omega, hp.2⟩, ⟨by omega, hp.2⟩, ?_⟩, fun p2 => H0 (fun z => p2 (by rw [e74]; exact z.2.1))⟩, fun p1 => H0 (fun z => p1 (by rw [e58]; exact z.1))⟩
  rw [e58] at p1
  rw [e74] at p2
  obtain ⟨u, hu⟩ := u_kd_ex (M := M) (e := en) (p := p) (fi := fun c => w_fi (r_W R c)) (ct := fun c => w_ct (r_W R c))
  obtain ⟨u', hu'⟩ := u_kd_ex (M := M) (e := e') (p := p) (fi := fun c => w_fi (r_W Ro c)) (ct := fun c => w_ct (r_W Ro c))
  have k1 : M' 105 0 p = u := u_kind hB ho1 hL he hm ⟨hp.1, p1⟩ hu
  have k2 : N 105 0 p = u' := u_kind hBo ho hLo he' hn ⟨hp.1, p2⟩ hu'
  have cpy := fun i hi => hy.2.2.2.2.2.2.2 i p hi hp.1 p2
  have c0 : M' 128 0 p = N 105 0 p := cpy 0 (by decide)
  have c1 : M' 129 0 p = N 106 0 p := cpy 1 (by decide)
  have c2 : M' 130 0 p = N 107 0 p := cpy 2 (by decide)
  have c3 : M' 131 0 p = N 108 0 p := cpy 3 (by decide)
  have c4 : M' 132 0 p = N 109 0 p := cpy 4 (by decide)
  have c5 : M' 133 0 p = N 110 0 p := cpy 5 (by decide)
  have c6 : M' 134 0 p = N 111 0 p := cpy 6 (by decide)
  have c7 : M' 135 0 p = N 112 0 p := cpy 7 (by decide)
  have uniq : ∀ v v', u_kd M en (fun c => w_fi (r_W R c)) (fun c => w_ct (r_W R c)) p v → u_kd M e' (fun c => w_fi (r_W Ro c)) (fun c => w_ct (r_W Ro c)) p v' → v = u ∧ v' = u' := fun v v' a b => by
    have z1 : M' 105 0 p = v := u_kind hB ho1 hL he hm ⟨hp.1, p1⟩ a
    have z2 : N 105 0 p = v' := u_kind hBo ho hLo he' hn ⟨hp.1, p2⟩ b
    exact ⟨by omega, by omega⟩
  have yes : u_pg M (fun c => w_P (r_W R c)) (fun c => w_P (r_W Ro c)) (fun c => w_fi (r_W R c)) (fun c => w_fi (r_W Ro c)) en e' p u u' → F 1 M' := fun z => H1 ⟨p1, p2, u, u', hu, hu', z⟩
  have nope : ¬ u_pg M (fun c => w_P (r_W R c)) (fun c => w_P (r_W Ro c)) (fun c => w_fi (r_W R c)) (fun c => w_fi (r_W Ro c)) en e' p u u' → F 0 M' := fun z => H0 (fun ⟨_, _, v, v', a, b, c⟩ => z (by
    obtain ⟨q1, q2⟩ := uniq v v' a b
    rw [q1, q2] at c; exact c))
  rw [k1, c0, k2]
  refine ⟨fun eu => ⟨⟨by omega, hp.2⟩, fun lt => ⟨⟨by omega, hp.2⟩, ⟨by omega, hp.2⟩, ?_⟩, fun ge => yes ⟨eu, fun z => absurd z ge⟩⟩, fun ne => nope (fun z => ne z.1)⟩
  subst eu
  have r1 : (0 ≤ u ∧ u < 3) ∧ (w_fi (r_W R u) ≤ p ∧ p < w_fi (r_W R u) + w_ct (r_W R u)) := by
    rcases hu with z | z | z
    · omega
    · exact ⟨z.2.1, z.2.2⟩
    · have := z.2.2; split at this <;> omega
  have r2 : w_fi (r_W Ro u) ≤ p ∧ p < w_fi (r_W Ro u) + w_ct (r_W Ro u) := by
    rcases hu' with z | z | z
    · omega
    · exact z.2.2
    · have := z.2.2; split at this <;> omega
  have hc := r1.1
  have b1 := c_pgb hB ho1 hc (p - w_fi (r_W R u)) (by omega) (by omega)
  have b2 := c_pgb hBo ho hc (p - w_fi (r_W Ro u)) (by omega) (by omega)
  have ok : p_okB (r_A B R u) (B 0 u) := c_okB hB ho1.1 hc
  have oko : p_okB (r_A Bo Ro u) (Bo 0 u) := c_okB hBo ho.1 hc
  have cd := (hm.1.2 u hc.1 hc.2).2 b1.1
  have cdo := (hn.1.2 u hc.1 hc.2).2 b2.1
  have pg := (cd.2.1 (p - w_fi (r_W R u)) (by omega) (by omega)).1
  have pgo := (cdo.2.1 (p - w_fi (r_W Ro u)) (by omega) (by omega)).1
  rw [show w_fi (r_W R u) - 1 + 1 + (p - w_fi (r_W R u)) = p by omega] at pg
  rw [show w_fi (r_W Ro u) - 1 + 1 + (p - w_fi (r_W Ro u)) = p by omega] at pgo
  have t67 := ok.2.2
  have t67o := oko.2.2
  have l4 := ok.1.2.2.1
  have l12 := ok.1.2.2.2.1
  have l4o := oko.1.2.2.1
  have l12o := oko.1.2.2.2.1
  have n10 := ok.1.1
  generalize hk : p - w_fi (r_W R u) = k at *
  generalize hj : p - w_fi (r_W Ro u) = j at *
  rw [pg.2.2.2.2.2.2.2.1, c7, pgo.2.2.2.2.2.2.2.1]
  have pb := c_p0_b hB
  have hpl : b_pl (c_K B) (c_G B R) M' := fun y y0 y1 z => m_ed0_at hB ho1 hm.1 ⟨y0, y1⟩ (c_K_there z)
  have hG : ∀ y, 0 ≤ y → y < 600 → c_K B y ≠ 0 → 0 ≤ c_G B R y ∧ c_G B R y ≤ 1000 := fun y y0 y1 z => by have := c_G_b hB ⟨pb.2.2.1, by omega⟩ ho1 ⟨y0, y1⟩ (c_K_there z); omega
  have rows : ∀ r, 0 ≤ r → r < w_P (r_W R u) 0 k - g_bf (w_P (r_W R u)) 0 k → r < w_P (r_W Ro u) 0 j - g_bf (w_P (r_W Ro u)) 0 j → ((p_srow M en e' u (g_bf (w_P (r_W R u)) 0 k + r) (g_bf (w_P (r_W Ro u)) 0 j + r) ∧ u_txt M en e' u (g_bf (w_P (r_W R u)) 0 k + r)) ↔ u_mrow B R M' u (70 * u + g_bf (w_P (r_W R u)) 0 k + r) (70 * u + g_bf (w_P (r_W Ro u)) 0 j + r)) := fun r r0 ra rb => by
    have z := u_row_iff hB ho1 hBo ho he he' hm.1 hn.1 hy hr hst hc b1.1 b2.1 (s := g_bf (w_P (r_W R u)) 0 k + r) (s' := g_bf (w_P (r_W Ro u)) 0 j + r) ⟨by omega, by omega⟩ ⟨by omega, by omega⟩
    rw [show 70 * u + (g_bf (w_P (r_W R u)) 0 k + r) = 70 * u + g_bf (w_P (r_W R u)) 0 k + r by omega, show 70 * u + (g_bf (w_P (r_W Ro u)) 0 j + r) = 70 * u + g_bf (w_P (r_W Ro u)) 0 j + r by omega] at z
    exact z
  have fls : ∀ z, 0 ≤ z → z < w_P (r_W R u) 1 k - g_bf (w_P (r_W R u)) 1 k → z < w_P (r_W Ro u) 1 j - g_bf (w_P (r_W Ro u)) 1 j → ((M 59 (1 + 3 * en + u) (g_bf (w_P (r_W R u)) 1 k + z) = M 59 (1 + 3 * e' + u) (g_bf (w_P (r_W Ro u)) 1 j + z) ∧ M 23 en (u * 10 + M 59 (1 + 3 * en + u) (g_bf (w_P (r_W R u)) 1 k + z) / 4 / 20) = M 23 e' (u * 10 + M 59 (1 + 3 * en + u) (g_bf (w_P (r_W R u)) 1 k + z) / 4 / 20)) ↔ u_mfl M' (4 * u + g_bf (w_P (r_W R u)) 1 k + z) (4 * u + g_bf (w_P (r_W Ro u)) 1 j + z)) := fun z z0 za zb => by
    have y := u_fl_iff hB ho1 hBo ho he he' hm.1 hn.1 hy hst hc b1.1 b2.1 (f := g_bf (w_P (r_W R u)) 1 k + z) (f' := g_bf (w_P (r_W Ro u)) 1 j + z) ⟨by omega, by omega⟩ ⟨by omega, by omega⟩
    rw [show 4 * u + (g_bf (w_P (r_W R u)) 1 k + z) = 4 * u + g_bf (w_P (r_W R u)) 1 k + z by omega, show 4 * u + (g_bf (w_P (r_W Ro u)) 1 j + z) = 4 * u + g_bf (w_P (r_W Ro u)) 1 j + z by omega] at y
    exact y
  have lns : ∀ z, 0 ≤ z → z < w_P (r_W R u) 2 k - g_bf (w_P (r_W R u)) 2 k → z < w_P (r_W Ro u) 2 j - g_bf (w_P (r_W Ro u)) 2 j → ((M 60 (1 + 3 * en + u) (g_bf (w_P (r_W R u)) 2 k + z) = M 60 (1 + 3 * e' + u) (g_bf (w_P (r_W Ro u)) 2 j + z) ∧ M 23 en (u * 10 + M 60 (1 + 3 * en + u) (g_bf (w_P (r_W R u)) 2 k + z) / 4 / 20) = M 23 e' (u * 10 + M 60 (1 + 3 * en + u) (g_bf (w_P (r_W R u)) 2 k + z) / 4 / 20)) ↔ u_mln M' (12 * u + g_bf (w_P (r_W R u)) 2 k + z) (12 * u + g_bf (w_P (r_W Ro u)) 2 j + z)) := fun z z0 za zb => by
    have y := u_ln_iff hB ho1 hBo ho he he' hm.1 hn.1 hy hst hc b1.1 b2.1 (f := g_bf (w_P (r_W R u)) 2 k + z) (f' := g_bf (w_P (r_W Ro u)) 2 j + z) ⟨by omega, by omega⟩ ⟨by omega, by omega⟩
    rw [show 12 * u + (g_bf (w_P (r_W R u)) 2 k + z) = 12 * u + g_bf (w_P (r_W R u)) 2 k + z by omega, show 12 * u + (g_bf (w_P (r_W Ro u)) 2 j + z) = 12 * u + g_bf (w_P (r_W Ro u)) 2 j + z by omega] at y
    exact y
  refine ⟨fun gr => ?_, fun gr => nope (fun z => gr (by have := (z.2 lt).1; simp only [hk, hj] at this; exact this))⟩
  refine t260 hS (R := R) (a' := g_bf (w_P (r_W Ro u)) 0 j) hB2 hbk hpl hG hc ⟨by omega, hp.2⟩ k1 pg.2.1 pg.2.2.1 (by rw [c1]; exact pgo.2.1) ⟨b1.2.1.1, by omega, by omega⟩ (fun q => by rw [c2, pgo.2.2.1] at q; omega) (fun r r0 r1 => ?_) (fun q al => ?_) (fun no => ⟨fun _ => nope (fun z => no ?_), fun q => absurd rfl q⟩)
  · have row := cd.1.2 r (by omega) (by omega)
    have ri := p_row_in ok.1 (r := r) ⟨by omega, by omega⟩
    have tw := fun w => c_A_there (B := B) (L := r_L R) (E := r_E R) (c := u) (r := r) (w := w) ok.1 hc.1 ⟨by omega, by have e : p_SR (c_A B (r_L R) (r_E R) u) (B 0 u) = p_SR (r_A B R u) (B 0 u) := rfl; omega⟩
    rw [row.1, row.2.2.1, row.2.2.2.1]
    exact ⟨by omega, by omega, fun w w0 w1 => (tw w ⟨w0, w1⟩).1⟩
  · rw [c2, pgo.2.2.1] at q
    have ur : u_rows M (w_P (r_W R u)) (w_P (r_W Ro u)) en e' u k j := ⟨q.symm, fun r r0 r1 => (rows r r0 r1 (by omega)).mpr (al r r0 r1)⟩
    refine ⟨fun z => absurd z (by decide), fun _ => ?_⟩
    refine t261 hS (f' := g_bf (w_P (r_W Ro u)) 1 j) (l' := g_bf (w_P (r_W Ro u)) 2 j) hc ⟨by omega, hp.2⟩ k1 pg.2.2.2.1 pg.2.2.2.2.1 (by rw [c3]; exact pgo.2.2.2.1) pg.2.2.2.2.2.1 pg.2.2.2.2.2.2.1 (by rw [c5]; exact pgo.2.2.2.2.2.1) ⟨b1.2.2.1.1, by omega, by omega⟩ ⟨b1.2.2.2.1, by omega, by omega⟩ (fun q => by rw [c4, pgo.2.2.2.2.1] at q; omega) (fun q => by rw [c6, pgo.2.2.2.2.2.2.1] at q; omega) (fun z z0 z1 => ?_) (fun z z0 z1 => ?_) (fun q2 al2 al3 y hy => ?_) (fun no y hy => ?_)
    · obtain ⟨i, w, a1, a2, a3, a4, a5⟩ := c_float ok (he.1 u hc.1 hc.2).1 cd.2.2.2.2.2 (f := z) ⟨by omega, by omega⟩
      have h6 := p_okA_6 ok.1 a1
      rw [a5]; omega
    · obtain ⟨i, w, kk, a1, a2, a3, a4, a5, a6⟩ := c_note ok (he.1 u hc.1 hc.2).1 cd.2.2.2.2.2 (l := z) ⟨by omega, by omega⟩
      have h6 := p_okA_6 ok.1 a1
      rw [a5]; omega
    · rw [if_neg (by decide)] at hy
      rw [hy]
      rw [c4, c6, pgo.2.2.2.2.1, pgo.2.2.2.2.2.2.1] at q2
      refine ⟨Or.inr rfl, yes ⟨rfl, fun _ => ?_⟩⟩
      simp only [hk, hj]
      exact ⟨gr, ur, ⟨q2.1.symm, fun z z0 z1 => (fls z z0 z1 (by omega)).mpr (al2 z z0 z1)⟩, q2.2.symm, fun z z0 z1 => (lns z z0 z1 (by omega)).mpr (al3 z z0 z1)⟩
    · rw [if_pos rfl] at hy
      rw [hy]
      refine ⟨Or.inl rfl, nope (fun z => no ?_)⟩
      have zz := (z.2 lt)
      simp only [hk, hj] at zz
      rw [c4, c6, pgo.2.2.2.2.1, pgo.2.2.2.2.2.2.1]
      exact ⟨⟨zz.2.2.1.1.symm, zz.2.2.2.1.symm⟩, fun y y0 y1 => (fls y y0 y1 (by have := zz.2.2.1.1; omega)).mp (zz.2.2.1.2 y y0 y1), fun y y0 y1 => (lns y y0 y1 (by have := zz.2.2.2.1; omega)).mp (zz.2.2.2.2 y y0 y1)⟩
  · have zz := (z.2 lt)
    simp only [hk, hj] at zz
    rw [c2, pgo.2.2.1]
    exact ⟨zz.2.1.1.symm, fun r r0 r1 => (rows r r0 r1 (by have := zz.2.1.1; omega)).mp (zz.2.1.2 r r0 r1)⟩
