/-! ===== printed: what is held, and that all is untouched then ===== -/
section
variable {d : Nat} {h : qH} {sc : Int × (Int → Int)} {f : Int → qH → qM → Prop} {x25 x30 : Int} {M N : qM} {B : pT} {n en L : Int} {W : Int → Int} {R : c_R}
theorem k_om_self (hx : k_as B en W R L N) (ha : k_all B R L N) (cp : k_cps B R (c_tot B R L) N) : k_om B B R N := by
  have hB := hx.1.1.1.1.1
  have zx := hx.1.1.2.2 hx.1.2
  obtain ⟨ob, B1, R1, out⟩ := zx.2.2.1
  have tb := c_tot_b hB out zx.2.1
  have pb := c_p0_b hB
  have t61 := ha.1.2
  obtain ⟨⟨c1, c2, c3⟩, c4, c5, c6, c7, c8, c9, c10, c11⟩ := cp
  refine ⟨⟨c2, c3⟩, fun c c0 c3' => ⟨fun N0 => ?_, fun N0 => ?_⟩, fun c i a b e g g' => ⟨fun _ => ?_, fun _ => rfl⟩⟩
  · have mk := (z_mk hB zx ⟨c0, c3'⟩).2 N0
    have fl := c_fi_la hB out ⟨c0, c3'⟩ N0
    have cm := (hx.2.2.2.2.2.1 c c0 c3').2 N0
    have pg := mk.2.2
    have pg1 := pg.1
    have sz : k_sz (r_A B R c) (B 0 c) c := (k_szA hB hx.2.1.1 out.1 ⟨c0, c3'⟩).1
    have e8 : p_T (r_A B R c) (B 0 c) (B 8 1) 8 0 = p_SR (r_A B R c) (B 0 c) := rfl
    have e36 := (c4 c c0 c3').1
    have e39 := (c4 c c0 c3').2
    refine ⟨⟨⟨by omega, by omega, by omega⟩, ⟨by omega, pg1.2.1⟩, by rw [e36, cm.2.2.2.2.1]; omega, fun k k0 k1 => ?_, fun le => ?_, fun k k0 k1 => ?_, fun k k0 k1 => ?_, fun z => ?_⟩, fun q q0 q1 => ?_⟩
    · have kd : z_kd B R (w_fi (r_W R c) + k) c := Or.inr (Or.inl ⟨by omega, ⟨c0, c3'⟩, by omega, by omega⟩)
      have p := k_pf hx ha (p := w_fi (r_W R c) + k) ⟨by omega, by omega⟩ kd
      rw [show w_fi (r_W R c) - 1 + 1 + k = w_fi (r_W R c) + k by omega, c6 _ (by omega) (by omega)]
      obtain ⟨_, _, _, g1, g2, g3, g4, _⟩ := p.2.2.2.1 c3'
      rw [show w_fi (r_W R c) + k - w_fi (r_W R c) = k by omega] at g1 g2 g4
      exact ⟨p.2.1, p.2.2.1, g1, g2, g4⟩
    · rw [c1] at le
      rw [c6 _ (by omega) le]
      intro e
      rcases (show w_fi (r_W R c) - 1 + 1 + w_ct (r_W R c) ≤ c_lal B R ∨ c_lal B R < w_fi (r_W R c) - 1 + 1 + w_ct (r_W R c) by omega) with y | y
      · have ela : c_la (r_W R) (c_p0 B) (3 : Int).toNat = c_lal B R := rfl
        rcases ha.2.1 (w_fi (r_W R c) - 1 + 1 + w_ct (r_W R c)) (by omega) (by rw [ela]; exact y) with z | ⟨c', z1, z2, z3, z4⟩ | z
        · rw [z.2.1] at e; omega
        · have kd : z_kd B R (w_fi (r_W R c) - 1 + 1 + w_ct (r_W R c)) c' := Or.inr (Or.inl ⟨by omega, ⟨z1.1, z1.2⟩, z3, z4⟩)
          have p := (k_pf hx ha ⟨by omega, le⟩ kd).2.2.1
          have ec : c' = c := by omega
          rw [ec] at z4
          omega
        · rw [z.2.1.1] at e; omega
      · rw [(ha.2.2 _ y le).1] at e; omega
    · have u := (g_pages_up pg k (by omega) k1).2.2.2 k0
      have v := pg.2.2.2.1 k k0 (by omega)
      omega
    · have v := (pg.2.1 (k + 1) (by omega) (by omega)).1
      have e : g_bf (w_P (r_W R c)) 0 (k + 1) = w_P (r_W R c) 0 k := g_bf_s k0
      rw [e39, cm.1]
      omega
    · have v := pg.2.2.2.1 (w_wr (r_W R c)) (Int.le_refl _) pg1.2.1
      have e : g_bf (w_P (r_W R c)) 0 (w_wr (r_W R c) - 1 + 1) = w_P (r_W R c) 0 (w_wr (r_W R c) - 1) := g_bf_s (by omega)
      rw [show w_wr (r_W R c) - 1 + 1 = w_wr (r_W R c) by omega] at e
      rw [e39, cm.1]
      omega
    · have t16 := sz.2.2.2.2
      rw [c5 _ (by omega) (by omega)]
      exact (cm.2.1 q q0 q1).2
  · have mk := (z_mk hB zx ⟨c0, c3'⟩).1 N0
    have cm := (hx.2.2.2.2.2.1 c c0 c3').1 N0
    rw [(c4 c c0 c3').1, cm.1]
    omega
  · have l6 := (hx.2.1.1.1 c a b).1
    rw [c7 _ (by omega) (by omega)]
theorem l_cp_self (hx : k_as B en W R L N) (ha : k_all B R L N) (h40 : c_lal B R ≤ 40) (cp : k_cps B R (c_tot B R L) N) : l_cp B en W R L N N := by
  obtain ⟨⟨c1, c2, c3⟩, c4, c5, c6, c7, c8, c9, c10, c11⟩ := cp
  exact ⟨⟨hx, ha, h40⟩, c1, c5, c6, c7, c8, c9, c10, c11⟩
/-- just printed: all is untouched -/
theorem s_self (hx : k_as B en W R L N) (ha : k_all B R L N) (h40 : c_lal B R ≤ 40) (cp : k_cps B R (c_tot B R L) N) (pp : z_pp B B W R L en N) : u_cnt (c_tot B R L) (c_tot B R L) (u_C N R R en en) ((c_tot B R L + 3) / 4) = (c_tot B R L + 3) / 4 := by
  have om := k_om_self hx ha cp
  have lc := l_cp_self hx ha h40 cp
  have hB := hx.1.1.1.1.1
  have zx := hx.1.1.2.2 hx.1.2
  obtain ⟨ob, B1, R1, out⟩ := zx.2.2.1
  have tb := c_tot_b hB out zx.2.1
  have pb := c_p0_b hB
  have all : ∀ p, 1 ≤ p → p ≤ c_tot B R L → u_C N R R en en p := fun p p1 p2 => by
    have z := s_iff hx ha pp lc om p1 p2 p2
    obtain ⟨⟨c1, c2, c3⟩, c4, c5, c6, c7, c8, c9, c10, c11⟩ := cp
    have e81 := c6 p (by omega) p2
    refine z.1.mpr ⟨by rw [e81], fun le => ?_⟩
    obtain ⟨⟨a1, a2, a3⟩, _, a4, a5, a6⟩ := z.2 le (by rw [e81])
    rw [e81]
    refine ⟨⟨rfl, rfl, rfl, rfl⟩, fun i i0 i1 => ?_, fun i i0 i1 => ?_, fun i i0 i1 => ?_⟩
    · have b := a4 i i0 i1
      rw [c5 _ (by omega) (by omega)]
      refine ⟨rfl, (c7 _ (by omega) (by omega)).symm, fun w w0 w1 => ?_⟩
      rw [c8 _ (by omega) (by omega), c9 _ w (by omega) (by omega) (by omega) (by omega)]
    · have b := a5 i i0 i1
      exact ⟨(c10 _ (by omega) (by omega)).symm, (c7 _ (by omega) (by omega)).symm⟩
    · have b := a6 i i0 i1
      exact ⟨(c11 _ (by omega) (by omega)).symm, (c7 _ (by omega) (by omega)).symm⟩
  have one : ∀ m, 0 ≤ m → u_cnt (c_tot B R L) (c_tot B R L) (u_C N R R en en) m = m := fun m m0 => by
    refine q_dnto (P := fun m => u_cnt (c_tot B R L) (c_tot B R L) (u_C N R R en en) m = m) m0 rfl (fun j j0 j1 ih => ?_)
    have us : u_cnt (c_tot B R L) (c_tot B R L) (u_C N R R en en) (j - 1 + 1) = u_cnt (c_tot B R L) (c_tot B R L) (u_C N R R en en) (j - 1) + @ite Int (u_sh (c_tot B R L) (c_tot B R L) (u_C N R R en en) (j - 1)) (Classical.propDecidable _) 1 0 := p_sum_s (by omega)
    have sh : u_sh (c_tot B R L) (c_tot B R L) (u_C N R R en en) (j - 1) := fun p a b => ⟨Iff.rfl, fun le => all p (by omega) le⟩
    rw [if_pos sh, show j - 1 + 1 = j by omega] at us
    omega
  exact one _ (by omega)
/-- print, class -/
theorem C160 {F : Int → qH → qM → Prop} (hS : qSe h) (hx : z_cx B en W R L M) (m : M 10 0 13 ≠ 0) (H : ∀ N, N = qU M 10 0 9 (en + 1) → F (c_tot B R L) h N) : e160 (d + 3) h M F := by
  have z := hx.2.2 m
  obtain ⟨e0, h8, he⟩ := hx.1.2.2.2
  have e8 := z.1
  refine W160 (w105 hS (t138 hS (fun _ => ⟨fun q => by omega, fun _ => ⟨by omega, fun M1 f1 => ?_⟩, fun q => by omega⟩) (fun q => absurd q m)))
  have v8 : M1 10 0 8 = en + 1 := by rw [f1, qU_l (by decide)]; exact e8
  refine ⟨fun q => by omega, fun _ => ?_, fun q => by omega⟩
  rw [show M1 10 0 8 - 1 = en by omega, show M1 3 en 5 = M 3 en 5 by rw [f1, qU_k (by decide)], z.2.2.2.1.2.2.2.2.2]
  exact H M1 (by rw [f1, show M 10 0 8 - 1 + 1 = en + 1 by omega])
theorem k_885 {u : Nat} (hu : k_h u h) (ha : l_all n B M) (H1 : ∀ N, l_all n B N → ∀ u26 u27 u28 u31 u32 u33 u34, b269_1234 d h sc f x25 u26 u27 u28 1 x30 u31 u32 u33 u34 N) (u26 u27 u28 u31 u32 u33 u34 : qV) : b269_885 d h sc f x25 u26 u27 u28 1 x30 u31 u32 u33 u34 M := by
  have hS := hu.1
  refine w269_885 hS ⟨fun m4 M1 f1 M2 f2 M3 f3 M4 f4 => ?_, fun _ => H1 M ha _ _ _ _ _ _ _⟩
  obtain ⟨⟨b1, ⟨b2, b3, b4⟩, ⟨b5, b6⟩, b7, b8, b9⟩, hm, hp⟩ := ha
  rcases hm with ⟨_, m2⟩ | ⟨m1, _, en, W, R, L, hx, hall, h40⟩
  · omega
  · have zx := hx.1.1.2.2 hx.1.2
    have hB := hx.1.1.1.1.1
    obtain ⟨ob, B1, R1, out⟩ := zx.2.2.1
    have tb := c_tot_b hB out zx.2.1
    have pb := c_p0_b hB
    obtain ⟨e0, h8, he⟩ := hx.1.1.1.2.2.2
    have e8 := zx.1
    have O4 : ∀ (k : Nat) (o s : Int), ¬ (k = 76 ∧ o = 0 ∧ (s = 5 ∨ (33 ≤ s ∧ s ≤ 35))) → M4 k o s = M k o s := fun k o s q => by rw [f4, f3, f2, f1]; unfold qU; rw [if_neg (by omega), if_neg (by omega), if_neg (by omega), if_neg (by omega)]
    have fr4 : k_pfr M M4 := fun k o s a b c => O4 k o s (by omega)
    have x4 := k_as_p hx fr4
    have a4 := k_all_p hall fr4
    have v5 : M4 76 0 5 = 1 := by rw [f4, qU_l (by decide), f3, qU_l (by decide), f2, qU_l (by decide), f1, qU_s]
    have v33 : M4 76 0 33 = c_tot B R L := by rw [f4, qU_l (by decide), f3, qU_l (by decide), f2, qU_s, f1, qU_l (by decide)]; exact hall.1.1
    have v34 : M4 76 0 34 = B 8 0 := by rw [f4, qU_l (by decide), f3, qU_s, f2, qU_l (by decide), f1, qU_l (by decide)]; exact b2.2.2.2.1
    have v35 : M4 76 0 35 = B 8 1 := by rw [f4, qU_s, f3, qU_l (by decide), f2, qU_l (by decide), f1, qU_l (by decide)]; exact b2.2.2.2.2.1
    refine k_926 hS x4 a4 ⟨v33, v34, v35⟩ (fun N5 fr5 n5 cp5 u31 u32 u33 u34 => ?_)
    have x5 := k_as_p x4 fr5
    have a5 := k_all_p a4 fr5
    refine w269_1199 hS (C160 hS x5.1.1 x5.1.2 (fun N f6 => ?_))
    have O6 : ∀ (k : Nat) (o s : Int), ¬ (k = 10 ∧ o = 0 ∧ s = 9) → N k o s = N5 k o s := fun k o s q => by rw [f6]; unfold qU; rw [if_neg q]
    have fr6 : k_pfr N5 N := fun k o s a b c => O6 k o s c
    have xN := k_as_p x5 fr6
    have aN := k_all_p a5 fr6
    have cpN : k_cps B R (c_tot B R L) N := by
      have e : ∀ (k : Nat), 64 ≤ k → ∀ s, N k 0 s = N5 k 0 s := fun k q s => O6 k 0 s (by omega)
      obtain ⟨⟨c1, c2, c3⟩, c4, c5, c6, c7, c8, c9, c10, c11⟩ := cp5
      refine ⟨⟨by rw [e 76 (by decide)]; exact c1, by rw [e 76 (by decide)]; exact c2, by rw [e 76 (by decide)]; exact c3⟩, fun c a b => ?_, fun s a b => ?_, fun p a b => ?_, fun it a b => ?_, fun it a b => ?_, fun it w a b e' i => ?_, fun s a b => ?_, fun s a b => ?_⟩
      · rw [e 76 (by decide), e 76 (by decide), e 76 (by decide), e 76 (by decide)]; exact c4 c a b
      · rw [e 80 (by decide), e 71 (by decide)]; exact c5 s a b
      · rw [e 81 (by decide), e 74 (by decide)]; exact c6 p a b
      · rw [e 82 (by decide), e 65 (by decide)]; exact c7 it a b
      · rw [e 83 (by decide)]; exact c8 it a b
      · rw [e 84 (by decide)]; exact c9 it w a b e' i
      · rw [e 85 (by decide), e 72 (by decide)]; exact c10 s a b
      · rw [e 86 (by decide), e 73 (by decide)]; exact c11 s a b
    have frN : k_pfr M N := k_pfr_t (k_pfr_t fr4 fr5) fr6
    have ppN : z_pp B B W R L en N := by
      have zN := xN.1.1.2.2 xN.1.2
      refine ⟨⟨by rw [f6, qU_s], by omega⟩, xN.1.1.1.1, zN.2.2.1, zN.2.1, zN.2.2.2.1, ⟨fun c _ _ => Int.le_refl _, fun x a b c _ => ⟨rfl, rfl, fun w _ _ => ⟨rfl, rfl⟩⟩⟩, fun x a b c => ?_⟩
      rw [frN 10 0 14 (by omega) (by omega) (by omega)]
      exact (b1.2.2.2.2.1.2 x a b).2
    have e6 : N 76 0 6 = c_tot B R L := aN.1.1
    refine ⟨fun _ => A186 hS xN aN (l_cp_self xN aN h40 cpN) ppN ?_, fun z => absurd e6.symm z⟩
    rw [e6, if_neg (Int.lt_irrefl _), s_self xN aN h40 cpN ppN]
    refine ⟨⟨by omega, by omega⟩, by omega, fun x hx' => ?_⟩
    rw [if_pos rfl] at hx'
    rw [hx']
    have e9 : z_9 N = z_9 M := z_9_eq (fun k o s a b => frN k o s (by omega) (by omega) (fun z => a ⟨z.1, z.2.2⟩))
    have y1 : z_cl n B (z_9 M) = z_cl n B M := rfl
    have y2 : z_cl n B (z_9 N) = z_cl n B N := rfl
    have zN : z_cl n B N := by rw [← y2, e9, y1]; exact b1
    have l : ∀ (k : Nat) (s : Int), ¬ (80 ≤ k ∧ k ≤ 86) → k ≠ 76 → k ≠ 10 → N k 0 s = M k 0 s := fun k s a b c => frN k 0 s (by omega) (by omega) (by omega)
    have l5 : ∀ x s, N 5 x s = M 5 x s := fun x s => frN _ _ _ (by omega) (by omega) (by omega)
    have l36 : N 36 = M 36 := funext fun x => funext fun s => frN _ _ _ (by omega) (by omega) (by omega)
    refine H1 N ⟨⟨zN, ⟨xN.2.2.1, b3, b4⟩, ⟨fun it a b => by rw [l 66 _ (by decide) (by decide) (by decide)]; exact b5 it a b, fun it a b r q => ?_⟩, ⟨?_, fun w a b => ?_⟩, fun t a b => ?_, fun it a b => ?_, fun x a b r q => ?_⟩, Or.inr ⟨?_, ?_, en, W, R, L, xN, aN, h40⟩, Or.inr ⟨?_, B, W, R, L, en, N, ppN, k_om_self xN aN cpN, l_cp_self xN aN h40 cpN, fun c i a b a' b' => ?_⟩⟩ _ _ _ _ _ _ _
    · have t := b6 it a b r q
      show N 65 0 it / 65536 = N 5 (1 + k_x it) 8 ∧ (N 5 (1 + k_x it) 8 ≠ 0 → kU (N 66 0 it) = kP 4 (fun j => (N 36 (1 + k_y it j / 20) (k_y it j % 20)).toNat) (B 3 (k_x it)).toNat ∧ ∀ j, 0 ≤ j → j < B 3 (k_x it) → 0 ≤ N 36 (1 + k_y it j / 20) (k_y it j % 20) ∧ N 36 (1 + k_y it j / 20) (k_y it j % 20) ≤ 15)
      rw [l 65 _ (by decide) (by decide) (by decide), l 66 _ (by decide) (by decide) (by decide), l5, l36]
      exact t
    · rw [frN 76 0 0 (by omega) (by omega) (by omega), l5]; exact b7.1
    · rw [l5] at b
      rw [l 79 _ (by decide) (by decide) (by decide), l 32 _ (by decide) (by decide) (by decide), l 33 _ (by decide) (by decide) (by decide), l 34 _ (by decide) (by decide) (by decide)]
      exact b7.2 w a b
    · rw [l 78 _ (by decide) (by decide) (by decide), l 63 _ (by decide) (by decide) (by decide)]; exact b8 t a b
    · rw [l 65 _ (by decide) (by decide) (by decide)]; exact b9.1 it a b
    · rw [l5]; exact b9.2 x a b r q
    · rw [frN 10 0 13 (by omega) (by omega) (by omega)]; exact m1
    · rw [frN 76 0 4 (by omega) (by omega) (by omega)]; exact m4
    · rw [O6 76 0 5 (by omega), n5]; exact v5
    · have l6 := (b3.1 c a b).1
      rw [cpN.2.2.2.2.1 _ (by omega) (by omega)]; exact Int.le_refl _
end
