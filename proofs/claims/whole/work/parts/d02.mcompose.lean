/-! ===== FacingleafModel.compose ===== -/
/-- what the model holds of what is composed -/
def m_now (B : pT) (W : Int → Int) (R : c_R) (L : Int) (M : qM) : Prop := m_ed0 B R M ∧ M 11 0 58 = c_tot B R L ∧ m_kd B (r_W R) (c_p0 B) 3 M ∧ (∀ p, c_lal B R < p → p ≤ c_tot B R L → M 105 0 p = 5) ∧ M 11 0 71 = c_lal B R + 1 ∧ ∀ y, 0 ≤ y → y < 600 → M 76 0 y = W y
def fr216 (M M' : qM) : Prop := ∀ (k : Nat) (m s : Int), ¬ (m = 0 ∧ ((k = 11 ∧ ((51 ≤ s ∧ s ≤ 58) ∨ s = 0 ∨ (20 ≤ s ∧ s ≤ 23) ∨ s = 71)) ∨ (76 ≤ k ∧ k ≤ 117))) → M' k m s = M k m s
theorem c_pc_b {D L : Int} (hD : 8 ≤ D ∧ D ≤ 14) (hL : 0 ≤ L ∧ L ≤ 1000) : 0 ≤ (L + 2 * D - 1) / (2 * D) ∧ (L + 2 * D - 1) / (2 * D) ≤ 64 := by
  rcases (show D = 8 ∨ D = 9 ∨ D = 10 ∨ D = 11 ∨ D = 12 ∨ D = 13 ∨ D = 14 by omega) with rfl | rfl | rfl | rfl | rfl | rfl | rfl <;> omega
theorem t216 {d : Nat} {h : qH} (hS : qSe h) {B Bo : pT} {Ro : c_R} {b : Int} {at' wd n : Int → Int} {ia ib : Int → Int → Int} {M : qM} {f : Int → qM → Prop}
    (hB : c_ok B) (hB2 : c_ok2 B) (hE : ¬ (b ≠ 0 ∧ M 11 0 73 = 0) → m_env B (b ≠ 0) Bo Ro b M) (hI : m_inv B M) (hl : m_lim M) (hat : ∀ x, 0 ≤ x → x < 30 → x % 10 < B 0 (x / 10) → B 1 x = 0 → M 79 0 x = at' x ∧ ∀ j, 0 ≤ j → j < B 3 x → M 80 0 (20 * x + j) = wd (20 * x + j)) (h75 : ∀ t, 0 ≤ t → t < 10 → -1 ≤ M 75 0 t)
    (HX : b ≠ 0 → M 11 0 73 = 0 → ∀ M', M' = qU M 11 0 0 1 → f 0 M')
    (H : ¬ (b ≠ 0 ∧ M 11 0 73 = 0) → (∃ W R res set' cnt, c_comp B (b ≠ 0) Bo Ro (c_p0 B) at' wd W R res set' cnt ∧ (∀ t, 0 ≤ t → t < 10 → x_iv (n t) (ia t) (ib t) (x_on (c_K B) (B 5) (c_G B R) t 600) ∧ n t ≤ 200) ∧ ∀ M', fr216 M M' → M' 11 0 0 = 0 → M' 11 0 22 = 1 → m_now B W R (x_L n (M 75 0)) M' → m_inv B M' → m_lim M' → m_brkW B W M' → M' 11 0 21 = set' → M' 11 0 23 = cnt → f res M') ∨ (∃ W, c_ncomp B (b ≠ 0) Bo Ro (c_p0 B) W ∧ ∀ M', fr216 M M' → M' 11 0 0 = 0 → M' 11 0 22 = 0 → m_inv B M' → m_lim M' → m_brkW B W M' → f (-1) M')) : e216 (d + 9) h b M f := by
  have hD := hB.2.2.2.2.2.2.2.1
  have pb := c_p0_b hB
  have hp : 0 ≤ c_p0 B ∧ c_p0 B ≤ 100 := by omega
  refine w216 hS (fun x hx M1 f1 => ?_)
  have O1 : ∀ (k : Nat) (m s : Int), ¬ (k = 11 ∧ m = 0 ∧ s = 0) → M1 k m s = M k m s := fun k m s q => by rw [f1]; unfold qU; rw [if_neg q]
  have v0 : M1 11 0 0 = x := by rw [f1, qU_s]
  rw [v0]
  by_cases no : b ≠ 0 ∧ M 11 0 73 = 0
  · rw [if_neg no.1, if_pos no.2] at hx
    refine ⟨fun q => by omega, fun _ => HX no.1 no.2 M1 (by rw [f1, hx])⟩
  · have hx0 : x = 0 := by
      rw [hx]
      by_cases q : b = 0
      · rw [if_pos q]
      · rw [if_neg q, if_neg (fun z => no ⟨q, z⟩)]
    refine ⟨fun _ => ?_, fun q => by omega⟩
    have fr1 : fr215 M M1 ∨ True := Or.inr trivial
    have env1 : m_env B (b ≠ 0) Bo Ro b M1 := by
      obtain ⟨h1, ⟨h2, h3⟩, h4⟩ := hE no
      refine ⟨m_bk_fr h1 (fun k s q => O1 _ _ _ (by omega)), ⟨fun x => by rw [O1 _ _ _ (by omega)]; exact h2 x, fun i => by rw [O1 _ _ _ (by omega)]; exact h3 i⟩, ?_⟩
      rcases h4 with h4 | h4
      · exact Or.inl h4
      · exact Or.inr ⟨h4.1, h4.2.1, m_om_fr h4.2.2.1 (fun k s q => O1 _ _ _ (by omega)), h4.2.2.2⟩
    have inv1 : m_inv B M1 := ⟨m_brk_fr hI.1 (fun k s a b => O1 _ _ _ (by omega)), fun k => by rw [O1 _ _ _ (by omega)]; exact hI.2.1 k, fun s => by rw [O1 _ _ _ (by omega)]; exact hI.2.2 s⟩
    have lim1 : m_lim M1 := ⟨fun i => by rw [O1 _ _ _ (by omega)]; exact hl.1 i, fun s => by rw [O1 _ _ _ (by omega)]; exact hl.2 s⟩
    refine t215 hS (at' := at') (wd := wd) hB hB2 env1 inv1 lim1 (fun x a b c q => by
      have := hat x a b c q
      exact ⟨by rw [O1 _ _ _ (by omega)]; exact this.1, fun j j0 j1 => by rw [O1 _ _ _ (by omega)]; exact this.2 j j0 j1⟩) ?_
    rcases H no with ⟨W, R, res, set', cnt, comp, hiv, H⟩ | ⟨W, nc, H⟩
    · refine Or.inl ⟨W, R, res, set', cnt, comp, fun M2 O2 ed inv2 lim2 bw e20 e21 e23 w76 => ⟨Or.inr rfl, fun M3 f3 => ⟨fun q => ?_, fun _ => ?_⟩⟩⟩
      · rw [f3, qU_s] at q; exact absurd q (by decide)
      have out := (c_comp_out comp).1
      have labd := c_la_bd2 hB out.1 hp.1 (Int.le_refl _) out.2 3 (by decide)
      have e58 : M2 11 0 58 = c_lal B R := ed.2.2.1
      have lal : c_lal B R = c_la (r_W R) (c_p0 B) 3 := rfl
      have O3 : ∀ (k : Nat) (m s : Int), ¬ (k = 11 ∧ m = 0 ∧ s = 22) → M3 k m s = M2 k m s := fun k m s q => by rw [f3]; unfold qU; rw [if_neg q]
      have e58' : M3 11 0 58 = c_lal B R := by rw [O3 _ _ _ (by omega)]; exact e58
      rw [e58']
      refine ⟨⟨by omega, by omega⟩, fun M4 f4 => ?_⟩
      have O4 : ∀ (k : Nat) (m s : Int), ¬ (k = 11 ∧ m = 0 ∧ (s = 22 ∨ s = 71)) → M4 k m s = M2 k m s := fun k m s q => by rw [f4]; unfold qU; rw [if_neg (by omega)]; exact O3 k m s (by omega)
      have v71 : M4 11 0 71 = c_lal B R + 1 := by rw [f4, qU_s]
      have v22 : M4 11 0 22 = 1 := by rw [f4, qU_l (by decide), f3, qU_s]
      have fr4 : fr216 M M4 := fun k m s q => by rw [O4 k m s (by omega), O2 k m s (by omega), O1 k m s (by omega)]
      have hok : ∀ c, 0 ≤ c → c < 3 → p_okB (r_A B R c) (B 0 c) ∧ (0 < B 0 c → ∃ D, g_pages (p_T (r_A B R c) (B 0 c) D) (w_P (r_W R c)) (w_ct (r_W R c)) (w_wr (r_W R c))) := fun c a b => ⟨c_okB hB out.1 ⟨a, b⟩, fun z => ⟨B 8 1, ((out.2 c a b).1.2 z).2.2⟩⟩
      have bk4 : m_bk B M4 := m_bk_fr env1.1 (fun k s q => by rw [O4 _ _ _ (by omega), O2 _ _ _ (by omega)])
      have ed4 : m_edm B R (c_p0 B) M4 := by
        have z := m_pages_fr hok (M := M2) (M' := M4) ⟨ed.1, ed.2.1⟩ (fun k s q => O4 _ _ _ (by rcases q with q | q | q <;> omega))
        exact ⟨z.1, z.2, by rw [O4 _ _ _ (by omega)]; exact e58, fun p p1 p2 => by rw [O4 _ _ _ (by omega)]; exact ed.2.2.2 p p1 p2⟩
      have e75 : M4 75 0 = M 75 0 := by funext t; exact fr4 _ _ _ (by omega)
      refine t253 hS (K := c_K B) (V := B 5) (G := c_G B R) (m_bk_wd hB2 bk4) (fun y y0 y1 k => m_edm_at hB out ed4 ⟨y0, y1⟩ (c_K_there k)) (fun y y0 y1 k => by have := c_G_b hB hp out ⟨y0, y1⟩ (c_K_there k); omega) hiv (fun t a b => by rw [e75]; exact h75 t a b) (fun M5 O5 => ?_)
      rw [e75]
      have Lb : 0 ≤ x_L n (M 75 0) ∧ x_L n (M 75 0) ≤ 1000 := x_L_b (al := M 75 0) (fun t a b => ⟨(hiv t a b).1.1, (hiv t a b).2⟩) 10 (by decide) (by decide)
      generalize hL : x_L n (M 75 0) = L at *
      have pc := c_pc_b hD Lb
      have O45 : ∀ (k : Nat) (m s : Int), ¬ (k = 11 ∧ m = 0 ∧ (s = 22 ∨ s = 71)) → ¬ (k = 117 ∧ m = 0) → M5 k m s = M2 k m s := fun k m s a b => by rw [O5 k m s b]; exact O4 k m s a
      have eD : ∀ N : qM, (∀ (k : Nat) (m s : Int), ¬ (m = 0 ∧ ((k = 11 ∧ s = 58) ∨ (105 ≤ k ∧ k ≤ 113 ∧ c_lal B R < s))) → N k m s = M5 k m s) → N 11 0 2 = B 8 1 := fun N hN => by rw [hN _ _ _ (by omega), O5 _ _ _ (by omega)]; exact bk4.2.2.2.2.1
      refine q_upto (P := fun i => 0 ≤ i → ∀ N u1, (∀ (k : Nat) (m s : Int), ¬ (m = 0 ∧ ((k = 11 ∧ s = 58) ∨ (105 ≤ k ∧ k ≤ 113 ∧ c_lal B R < s))) → N k m s = M5 k m s) → N 11 0 58 = c_lal B R + i → (∀ p, c_lal B R < p → p ≤ c_lal B R + i → N 105 0 p = 5) → b216_64 d h f u1 L i N) (a := 0) (b := (L + 2 * B 8 1 - 1) / (2 * B 8 1)) pc.1 (fun _ N u1 ON n58 n5 => ?_) (fun i i0 i1 ih _ N u1 ON n58 n5 => ?_) (Int.le_refl _) M5 _ (fun _ _ _ _ => rfl) (by rw [O45 _ _ _ (by omega) (by omega), e58]; omega) (fun p a b => by omega)
      · refine w216_64 hS ?_
        rw [eD N ON]
        have e20' : N 11 0 20 = res := by rw [ON _ _ _ (by omega), O45 _ _ _ (by omega) (by omega)]; exact e20
        refine ⟨⟨by omega, by omega⟩, ⟨by omega, by omega⟩, ⟨by omega, by omega⟩, ⟨by omega, by omega⟩, ⟨by omega, by omega⟩, fun q => absurd q (Int.lt_irrefl _), fun _ => ?_⟩
        rw [e20']
        have frN : fr216 M N := fun k m s q => by rw [ON k m s (by omega), O45 k m s (by omega) (by omega), O2 k m s (by omega), O1 k m s (by omega)]
        have tot : c_tot B R L = c_lal B R + (L + 2 * B 8 1 - 1) / (2 * B 8 1) := rfl
        have OB : ∀ (k : Nat) (s : Int), 76 ≤ k → k ≤ 104 → N k 0 s = M2 k 0 s := fun k s a b => by rw [ON _ _ _ (by omega), O45 _ _ _ (by omega) (by omega)]
        refine H N frN ?_ ?_ ⟨?_, by rw [n58, tot], ?_, fun p a b => n5 p a (by omega), ?_, fun y a b => by rw [OB _ _ (by decide) (by decide)]; exact w76 y a b⟩ ⟨m_brk_fr inv2.1 (fun k s a b => OB _ _ (by omega) (by omega)), fun k => by rw [OB _ _ (by decide) (by decide)]; exact inv2.2.1 k, fun s => by rw [OB _ _ (by decide) (by decide)]; exact inv2.2.2 s⟩ ⟨fun i => by rw [OB _ _ (by decide) (by decide)]; exact lim2.1 i, fun s => by rw [OB _ _ (by decide) (by decide)]; exact lim2.2 s⟩ (m_brkW_fr bw (fun k s a b => OB _ _ (by omega) (by omega))) ?_ ?_
        · rw [ON _ _ _ (by omega), O45 _ _ _ (by omega) (by omega), O2 _ _ _ (by omega), v0]; exact hx0
        · rw [ON _ _ _ (by omega), O5 _ _ _ (by omega)]; exact v22
        · refine m_pages_fr hok (M := M2) (M' := N) ⟨ed.1, ed.2.1⟩ (fun k s q => ?_)
          rcases q with q | q | ⟨q1, q2, c, q3, q4, q5⟩
          · rw [ON _ _ _ (by omega), O45 _ _ _ (by omega) (by omega)]
          · rw [ON _ _ _ (by omega), O45 _ _ _ (by omega) (by omega)]
          · have st := fun n n0 n1 => c_la_st hB out.1 (Int.le_refl _) out.2 n n0 n1
            have sc := (st c q3.1 q3.2).2 q4
            have mono : ∀ z, c + 1 ≤ z → z ≤ 3 → c_la (r_W R) (c_p0 B) (c + 1).toNat ≤ c_la (r_W R) (c_p0 B) z.toNat := fun z z0 z1 => by
              refine q_upto (P := fun x => c + 1 ≤ x → c_la (r_W R) (c_p0 B) (c + 1).toNat ≤ c_la (r_W R) (c_p0 B) x.toNat → c_la (r_W R) (c_p0 B) (c + 1).toNat ≤ c_la (r_W R) (c_p0 B) z.toNat) z0 (fun _ q => q) (fun x x0 x1 ih _ q => ih (by omega) ?_) (Int.le_refl _) (Int.le_refl _)
              have s := st x (by omega) (by omega)
              by_cases e : B 0 x ≤ 0
              · rw [s.1 e]; exact q
              · have := s.2 (by omega); omega
            have m3 := mono 3 (by omega) (Int.le_refl _)
            have : c_la (r_W R) (c_p0 B) (3 : Int).toNat = c_la (r_W R) (c_p0 B) 3 := rfl
            rw [ON _ _ _ (by omega), O45 _ _ _ (by omega) (by omega)]
        · intro p p1 p2
          have e3 : c_la (r_W R) (c_p0 B) (3 : Int).toNat = c_la (r_W R) (c_p0 B) 3 := rfl
          rw [ON _ _ _ (by omega), O45 _ _ _ (by omega) (by omega)]
          exact ed.2.2.2 p p1 p2
        · rw [ON _ _ _ (by omega), O5 _ _ _ (by omega)]; exact v71
        · rw [ON _ _ _ (by omega), O45 _ _ _ (by omega) (by omega)]; exact e21
        · rw [ON _ _ _ (by omega), O45 _ _ _ (by omega) (by omega)]; exact e23
      · refine w216_64 hS ?_
        rw [eD N ON]
        refine ⟨⟨by omega, by omega⟩, ⟨by omega, by omega⟩, ⟨by omega, by omega⟩, ⟨by omega, by omega⟩, ⟨by omega, by omega⟩, fun _ => ?_, fun q => absurd i1 q⟩
        refine t196 hS (p := c_lal B R + i + 1) (by rw [n58]) ⟨by omega, by omega⟩ (fun N1 g1 g2 g3 => ⟨⟨by omega, by omega⟩, ih (by omega) N1 _ (fun k m s q => by rw [g1 k m s (by omega)]; exact ON k m s q) (by rw [g2]; omega) (fun p a b => ?_)⟩)
        by_cases e : p = c_lal B R + i + 1
        · rw [e]; exact g3
        · rw [g1 _ _ _ (by omega)]; exact n5 p a (by omega)
    · refine Or.inr ⟨W, nc, fun M2 O2 inv2 lim2 bw2 => ⟨Or.inl rfl, fun M3 f3 => ⟨fun _ => ?_, fun q => ?_⟩⟩⟩
      · have O3 : ∀ (k : Nat) (m s : Int), ¬ (k = 11 ∧ m = 0 ∧ s = 22) → M3 k m s = M2 k m s := fun k m s q => by rw [f3]; unfold qU; rw [if_neg q]
        exact H M3 (fun k m s q => by rw [O3 k m s (by omega), O2 k m s (by omega), O1 k m s (by omega)]) (by rw [O3 _ _ _ (by omega), O2 _ _ _ (by omega), v0]; exact hx0) (by rw [f3, qU_s]) ⟨m_brk_fr inv2.1 (fun k s a b => O3 _ _ _ (by omega)), fun k => by rw [O3 _ _ _ (by omega)]; exact inv2.2.1 k, fun s => by rw [O3 _ _ _ (by omega)]; exact inv2.2.2 s⟩ ⟨fun i => by rw [O3 _ _ _ (by omega)]; exact lim2.1 i, fun s => by rw [O3 _ _ _ (by omega)]; exact lim2.2 s⟩ (m_brkW_fr bw2 (fun k s a b => O3 _ _ _ (by omega)))
      · exact absurd (by rw [f3, qU_s]) q
