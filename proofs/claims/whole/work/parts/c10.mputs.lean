/-! ===== FacingleafModel.putsAll, marginOf ===== -/
def fr249 (M M' : qM) : Prop := ∀ (k : Nat) (m s : Int), ¬ (m = 0 ∧ ((k = 11 ∧ 95 ≤ s ∧ s ≤ 101) ∨ k = 136 ∨ k = 137)) → M' k m s = M k m s
/-- lines and chapters of the round, in the model -/
def m_ed0 (B : pT) (R : c_R) (M : qM) : Prop := (∀ x, 0 ≤ x → x < 30 → x % 10 < B 0 (x / 10) → B 1 x = 0 → M 81 0 x = r_L R x ∧ M 83 0 x = r_C R x ∧ ∀ s, 0 ≤ s → s < r_L R x → M 82 0 (20 * x + s) = r_E R x s) ∧ ∀ c, 0 ≤ c → c < 3 → m_cd (r_A B R c) (B 0 c) (r_W R c) c M
theorem m_pages_fr {B : pT} {R : c_R} {M M' : qM} (hok : ∀ c, 0 ≤ c → c < 3 → p_okB (r_A B R c) (B 0 c) ∧ (0 < B 0 c → ∃ D, g_pages (p_T (r_A B R c) (B 0 c) D) (w_P (r_W R c)) (w_ct (r_W R c)) (w_wr (r_W R c)))) (h : m_ed0 B R M) (hf : ∀ (k : Nat) (s : Int), (81 ≤ k ∧ k ≤ 104) ∨ (114 ≤ k ∧ k ≤ 116) ∨ (105 ≤ k ∧ k ≤ 113 ∧ ∃ c, (0 ≤ c ∧ c < 3) ∧ 0 < B 0 c ∧ s ≤ w_fi (r_W R c) + w_ct (r_W R c) - 1) → M' k 0 s = M k 0 s) : m_ed0 B R M' := by
  obtain ⟨h1, h2⟩ := h
  refine ⟨fun x a b c q => ?_, fun c a b => ?_⟩
  · have := h1 x a b c q
    exact ⟨by rw [hf _ _ (Or.inl (by omega))]; exact this.1, by rw [hf _ _ (Or.inl (by omega))]; exact this.2.1, fun s s0 s1 => by rw [hf _ _ (Or.inl (by omega))]; exact this.2.2 s s0 s1⟩
  · by_cases N0 : 0 < B 0 c
    · refine m_cd_fr (pm := w_fi (r_W R c) + w_ct (r_W R c) - 1) (hok c a b).1 (hok c a b).2 (h2 c a b) (fun _ => Int.le_refl _) (fun k s q => hf k s ?_)
      by_cases z : 105 ≤ k ∧ k ≤ 113
      · exact Or.inr (Or.inr ⟨z.1, z.2, c, ⟨a, b⟩, N0, by omega⟩)
      · by_cases z2 : 114 ≤ k
        · exact Or.inr (Or.inl (by omega))
        · exact Or.inl (by omega)
    · obtain ⟨z1, z2, z3, z4⟩ := (h2 c a b).1 (by omega)
      exact ⟨fun _ => ⟨by rw [hf _ _ (Or.inr (Or.inl (by omega)))]; exact z1, by rw [hf _ _ (Or.inr (Or.inl (by omega)))]; exact z2, by rw [hf _ _ (Or.inl (by omega))]; exact z3, by rw [hf _ _ (Or.inr (Or.inl (by omega)))]; exact z4⟩, fun z => absurd z N0⟩
theorem t249 {d : Nat} {h : qH} (hS : qSe h) {B : pT} {W : Int → Int} {ob : Prop} {Bo : pT} {Ro R : c_R} {p0 c q : Int} {k : Nat} {M : qM} {F : qM → Prop} (hB : c_ok B) (hp : 0 ≤ p0 ∧ p0 ≤ 100) (hout : c_out B W ob Bo Ro p0 R) (hbk : m_bk B M) (hm : m_ed0 B R M) (h81 : ∀ k, 0 ≤ M 81 0 k ∧ M 81 0 k ≤ 1000) (hc : 0 ≤ c ∧ c < 3) (hN : 0 < B 0 c) (hk : (k : Int) < w_wr (r_W R c)) (h95 : M 11 0 95 = mg_n (c_mgn B R c k)) (h136 : ∀ i, 0 ≤ i → i < mg_n (c_mgn B R c k) → M 136 0 i = mg_o (c_mgn B R c k) i) (h100 : M 11 0 100 = q) (h101 : M 11 0 101 = mg_p (c_mgn B R c k) q)
    (H : ∀ M', fr249 M M' → M' 11 0 95 = mg_n (c_mgn B R c (k + 1)) → (∀ i, 0 ≤ i → i < mg_n (c_mgn B R c (k + 1)) → M' 136 0 i = mg_o (c_mgn B R c (k + 1)) i) → M' 11 0 100 = q → M' 11 0 101 = mg_p (c_mgn B R c (k + 1)) q → F M') : e249 (d + 3) h (w_fi (r_W R c) + k) M F := by
  have hD := hB.2.2.2.2.2.2.2.1
  have ok : p_okB (r_A B R c) (B 0 c) := c_okB hB hout.1 hc
  have fb := c_fi_bd hB hp hout hc
  have pgs : g_pages (p_T (r_A B R c) (B 0 c) (B 8 1)) (w_P (r_W R c)) (w_ct (r_W R c)) (w_wr (r_W R c)) := ((hout.2 c hc.1 hc.2).1.2 hN).2.2
  have hT := p_T_tab (D := B 8 1) ok hD
  have pg1 := pgs.1
  have cd := (hm.2 c hc.1 hc.2).2 hN
  have pg := (cd.2.1 k (by omega) (by omega)).1
  rw [show w_fi (r_W R c) - 1 + 1 + (k : Int) = w_fi (r_W R c) + k by omega] at pg
  have up := g_pages_up pgs k (by omega) (by omega)
  have at' := pgs.2.2.2.2.1 k (by omega) (by omega)
  have a1 := at'.1
  have e80 : p_T (r_A B R c) (B 0 c) (B 8 1) 8 0 = p_SR (r_A B R c) (B 0 c) := rfl
  have t67 := ok.2.2
  have mok := c_mgn_ok hB hout hc hN k (by omega)
  have c60 := mg_ct_60 hB hc
  have xe : p_xs (r_A B R c) c (g_bf (w_P (r_W R c)) 0 k) ≤ 200 * (c + 1) ∧ 0 ≤ p_xs (r_A B R c) c (g_bf (w_P (r_W R c)) 0 k) := by
    have l := up.2.2.1 hk
    have g := p_xs_gap (c := c) ok.1 (r := g_bf (w_P (r_W R c)) 0 k) ⟨a1.1, by omega⟩
    have r := p_row_in ok.1 (r := g_bf (w_P (r_W R c)) 0 k) ⟨a1.1, by omega⟩
    have n10 := ok.1.1
    omega
  have cm := mg_ct_mono (B := B) (c := c) xe.2 xe.1
  have mn := mok.2.1
  have rep : ∀ N : qM, fr249 M N → ∀ i, 0 ≤ i → i < B 0 c → p_mrep (r_A B R c) N c i := fun N O i i0 i1 => by
    refine m_rep (m_bk_fr hbk (fun k s z => O _ _ _ (by omega))) hc ⟨i0, by have := ok.1.1; omega⟩ (fun z => ?_)
    have := hm.1 (10 * c + i) (by have := ok.1.1; omega) (by have := ok.1.1; omega) (by have := ok.1.1; rw [show (10 * c + i) / 10 = c by omega]; omega) z
    exact ⟨by rw [O _ _ _ (by omega)]; exact this.1, fun s s0 s1 => by rw [O _ _ _ (by omega)]; exact this.2.2 s s0 s1⟩
  refine w249 hS ⟨⟨by omega, by omega⟩, fun M1 f1 M2 f2 => ?_⟩
  have O2 : ∀ (k : Nat) (m z : Int), ¬ (k = 11 ∧ m = 0 ∧ (z = 96 ∨ z = 99)) → M2 k m z = M k m z := fun k m z q => by rw [f2, f1]; unfold qU; rw [if_neg (by omega), if_neg (by omega)]
  rw [pg.1]
  -- the words that wait
  refine q_upto (P := fun j => 0 ≤ j → ∀ N u4 u5, fr249 M N → N 11 0 95 = mg_n (c_mgn B R c k) → (∀ i, 0 ≤ i → i < mg_n (c_mgn B R c k) → N 136 0 i = mg_o (c_mgn B R c k) i) → mg_M q (mg_over (B 8 1) (w_fi (r_W R c) + k) (B 5) (mg_o (c_mgn B R c k)) j.toNat (mg_begin (c_mgn B R c k))) N → b249_19 d h F (w_fi (r_W R c) + k) c j u4 u5 N) (a := 0) (b := mg_n (c_mgn B R c k)) mn.1 (fun _ N u4 u5 O n95 n136 sM => ?_) (fun j j0 j1 ih _ N u4 u5 O n95 n136 sM => ?_) (Int.le_refl _) M2 _ _ (fun k m z q => O2 k m z (by omega)) (by rw [O2 _ _ _ (by omega)]; exact h95) (fun i a b => by rw [O2 _ _ _ (by omega)]; exact h136 i a b) ⟨by rw [f2, qU_l (by decide), f1, qU_s]; rfl, by rw [f2, qU_s]; rfl, fun i a b => by have : i < 0 := b; omega, by rw [O2 _ _ _ (by omega)]; exact h100, by rw [O2 _ _ _ (by omega)]; exact h101⟩
  · have ov := mg_over_ok (pg := w_fi (r_W R c) + k) hB hD mok (mg_n (c_mgn B R c k)).toNat (by omega)
    have okb : mg_ok B c (mg_ct B c (p_xs (c_A B (r_L R) (r_E R) c) c (g_bf (w_P (r_W R c)) 0 k))) (mg_over (B 8 1) (w_fi (r_W R c) + k) (B 5) (mg_o (c_mgn B R c k)) (mg_n (c_mgn B R c k)).toNat (mg_begin (c_mgn B R c k))) := mg_ok_N ov (by have := ov.2.1; have e : mg_ct B c (p_xs (c_A B (r_L R) (r_E R) c) c (g_bf (w_P (r_W R c)) 0 k)) = mg_ct B c (p_xs (r_A B R c) c (g_bf (w_P (r_W R c)) 0 k)) := rfl; omega)
    refine w249_19 hS ⟨fun z => by omega, fun _ => ⟨⟨by omega, by omega⟩, ?_⟩⟩
    rw [O 106 _ _ (by omega), pg.2.1]
    generalize hs0 : mg_over (B 8 1) (w_fi (r_W R c) + k) (B 5) (mg_o (c_mgn B R c k)) (mg_n (c_mgn B R c k)).toNat (mg_begin (c_mgn B R c k)) = s0 at *
    refine q_upto (P := fun r => g_bf (w_P (r_W R c)) 0 k ≤ r → ∀ N u4 u5, fr249 M N → mg_M q (mg_rows (B 8 1) (w_fi (r_W R c) + k) B (r_A B R c) c (g_bf (w_P (r_W R c)) 0 k) (mg_pl (p_T (r_A B R c) (B 0 c) (B 8 1)) (w_P (r_W R c)) k) (r - g_bf (w_P (r_W R c)) 0 k).toNat s0) N → b249_52 d h F (w_fi (r_W R c) + k) c r u4 u5 N) (a := g_bf (w_P (r_W R c)) 0 k) (b := w_P (r_W R c) 0 k) up.1 (fun _ N u4 u5 O sM => ?_) (fun r r0 r1 ih _ N u4 u5 O sM => ?_) (Int.le_refl _) N u4 u5 O (by rw [show (g_bf (w_P (r_W R c)) 0 k - g_bf (w_P (r_W R c)) 0 (k : Int)).toNat = 0 by omega]; exact sM)
    · refine w249_52 hS ⟨⟨by omega, by omega⟩, ⟨by omega, by omega⟩, ?_⟩
      rw [O 106 _ _ (by omega), O 107 _ _ (by omega), pg.2.1, pg.2.2.1]
      refine ⟨⟨by omega, by omega⟩, fun z => by omega, fun _ M3 f3 => ?_⟩
      have nx : c_mgn B R c (k + 1) = mg_rows (B 8 1) (w_fi (r_W R c) + k) B (r_A B R c) c (g_bf (w_P (r_W R c)) 0 k) (mg_pl (p_T (r_A B R c) (B 0 c) (B 8 1)) (w_P (r_W R c)) k) (w_P (r_W R c) 0 k - g_bf (w_P (r_W R c)) 0 k).toNat s0 := by rw [← hs0]; rfl
      rw [← nx] at sM
      obtain ⟨m1, m2, m3, m4, m5⟩ := sM
      have mok' := c_mgn_ok hB hout hc hN (k + 1) (by omega)
      have mnb : 0 ≤ mg_n (c_mgn B R c (k + 1)) ∧ mg_n (c_mgn B R c (k + 1)) ≤ 60 := by
        have b := mok'.2.1
        have e1 : g_bf (w_P (r_W R c)) 0 ((k + 1 : Nat) : Int) = w_P (r_W R c) 0 k := by rw [show ((k + 1 : Nat) : Int) = (k : Int) + 1 by omega]; exact g_bf_s (by omega)
        rw [e1] at b
        have xe2 : p_xs (r_A B R c) c (w_P (r_W R c) 0 k) ≤ 200 * (c + 1) ∧ 0 ≤ p_xs (r_A B R c) c (w_P (r_W R c) 0 k) := by
          have l := up.2.2.1 hk
          have x := p_xs_s (A := r_A B R c) (c := c) (r := w_P (r_W R c) 0 k - 1) (by omega)
          rw [show w_P (r_W R c) 0 k - 1 + 1 = w_P (r_W R c) 0 k by omega] at x
          have ri := p_row_in ok.1 (r := w_P (r_W R c) 0 k - 1) ⟨by omega, by omega⟩
          have n10 := ok.1.1
          omega
        have cm2 := mg_ct_mono (B := B) (c := c) xe2.2 xe2.1
        omega
      have O3 : ∀ (k : Nat) (m z : Int), ¬ (k = 11 ∧ m = 0 ∧ z = 95) → M3 k m z = N k m z := fun k m z q => by rw [f3]; unfold qU; rw [if_neg q]
      refine q_upto (P := fun i => 0 ≤ i → ∀ N1 u4, fr249 M N1 → N1 11 0 95 = mg_n (c_mgn B R c (k + 1)) → (∀ i', 0 ≤ i' → i' < i → N1 136 0 i' = mg_o (c_mgn B R c (k + 1)) i') → (∀ i', 0 ≤ i' → i' < mg_n (c_mgn B R c (k + 1)) → N1 137 0 i' = mg_o (c_mgn B R c (k + 1)) i') → N1 11 0 100 = q → N1 11 0 101 = mg_p (c_mgn B R c (k + 1)) q → b249_163 d h F (.inl (w_fi (r_W R c) + k)) (.inl c) i u4 u5 N1) (a := 0) (b := mg_n (c_mgn B R c (k + 1))) mnb.1 (fun _ N1 u4 O1 z1 z2 z3 z4 z5 => w249_163 hS ⟨fun z => by omega, fun _ => H N1 O1 z1 z2 z4 z5⟩) (fun i i0 i1 ihi _ N1 u4 O1 z1 z2 z3 z4 z5 => ?_) (Int.le_refl _) M3 _ (fun k m z zz => by rw [O3 k m z (by omega)]; exact O k m z zz) (by rw [f3, qU_s]; exact m2) (fun i a b => by omega) (fun i a b => by rw [O3 _ _ _ (by omega)]; exact m3 i a b) (by rw [O3 _ _ _ (by omega)]; exact m4) (by rw [O3 _ _ _ (by omega)]; exact m5)
      refine w249_163 hS ⟨fun _ => ⟨⟨i0, by omega⟩, ⟨i0, by omega⟩, fun N2 g2 => ⟨⟨by omega, by omega⟩, ihi (by omega) N2 _ (fun k m z zz => by rw [g2]; unfold qU; rw [if_neg (by omega)]; exact O1 k m z zz) (by rw [g2, qU_k (by decide)]; exact z1) (fun i' a b => ?_) (fun i' a b => by rw [g2, qU_k (by decide)]; exact z3 i' a b) (by rw [g2, qU_k (by decide)]; exact z4) (by rw [g2, qU_k (by decide)]; exact z5)⟩⟩, fun z => by omega⟩
      by_cases e : i' = i
      · rw [e, g2, qU_s]; exact z3 i i0 i1
      · rw [g2, qU_l (by omega)]; exact z2 i' a (by omega)
    · have rr : 0 ≤ r ∧ r < p_SR (r_A B R c) (B 0 c) := ⟨by omega, by omega⟩
      have row := cd.1.2 r rr.1 rr.2
      have ri := p_row_in ok.1 rr
      have n10 := ok.1.1
      have tw := fun w => c_A_there (B := B) (L := r_L R) (E := r_E R) (c := c) (r := r) (w := w) ok.1 hc.1 rr
      have rows := mg_rows_ok (pl := mg_pl (p_T (r_A B R c) (B 0 c) (B 8 1)) (w_P (r_W R c)) k) (pg := w_fi (r_W R c) + k) (a := g_bf (w_P (r_W R c)) 0 k) hB hD hc.1 ok.1 a1.1 (r - g_bf (w_P (r_W R c)) 0 k).toNat (by have e : p_SR (c_A B (r_L R) (r_E R) c) (B 0 c) = p_SR (r_A B R c) (B 0 c) := rfl; omega) okb
      rw [show g_bf (w_P (r_W R c)) 0 (k : Int) + (((r - g_bf (w_P (r_W R c)) 0 k).toNat : Nat) : Int) = r by omega] at rows
      have rA : c_A B (r_L R) (r_E R) c = r_A B R c := rfl
      rw [rA] at tw rows
      generalize hs1 : mg_rows (B 8 1) (w_fi (r_W R c) + k) B (r_A B R c) c (g_bf (w_P (r_W R c)) 0 k) (mg_pl (p_T (r_A B R c) (B 0 c) (B 8 1)) (w_P (r_W R c)) k) (r - g_bf (w_P (r_W R c)) 0 k).toNat s0 = s1 at *
      have gapr := p_xs_gap (c := c) ok.1 rr
      have p3 := g_pages_3 hT pgs (k := k) ⟨by omega, hk⟩
      have f0 := at'.2.1
      have F4 := hT.2.2.1
      have m4 := fun (z : g_bf (w_P (r_W R c)) 1 k < w_P (r_W R c) 1 k) => hT.2.2.2.2.2.2.2.2.1 (g_bf (w_P (r_W R c)) 1 k) (g_bf (w_P (r_W R c)) 1 k + 1) f0.1 (by omega) (by omega)
      have bb : 0 ≤ mg_base (p_T (r_A B R c) (B 0 c) (B 8 1)) (w_P (r_W R c)) k ∧ mg_base (p_T (r_A B R c) (B 0 c) (B 8 1)) (w_P (r_W R c)) k ≤ 100 := by
        unfold mg_base
        by_cases z : w_P (r_W R c) 1 k ≤ g_bf (w_P (r_W R c)) 1 k
        · rw [if_pos z]; omega
        · rw [if_neg z]; have := m4 (by omega); omega
      have plb : 0 ≤ mg_pl (p_T (r_A B R c) (B 0 c) (B 8 1)) (w_P (r_W R c)) k r ∧ mg_pl (p_T (r_A B R c) (B 0 c) (B 8 1)) (w_P (r_W R c)) k r ≤ 900 := by
        have t0 : ∀ x, p_T (r_A B R c) (B 0 c) (B 8 1) 0 x = p_bl (r_A B R c) x := fun x => rfl
        have m : p_bl (r_A B R c) (g_bf (w_P (r_W R c)) 0 k + 1) ≤ p_bl (r_A B R c) (r + 1) := p_sum_mono (fun y _ _ => by unfold p_ib; split <;> (try split) <;> omega) (by omega) (by omega)
        have b1 := p_bl_bd (A := r_A B R c) (r := r + 1) (by omega)
        have b2 := p_bl_bd (A := r_A B R c) (r := g_bf (w_P (r_W R c)) 0 k + 1) (by omega)
        unfold mg_pl mg_min
        rw [t0, t0]
        split <;> omega
      refine w249_52 hS ⟨⟨by omega, by omega⟩, ⟨by omega, by omega⟩, ?_⟩
      rw [O 106 _ _ (by omega), O 107 _ _ (by omega), pg.2.1, pg.2.2.1, O 90 _ _ (by omega), row.2.2.1]
      refine ⟨⟨by omega, by omega⟩, fun _ => ⟨⟨by omega, by omega⟩, ⟨by omega, by omega⟩, ⟨by omega, by omega⟩, ?_⟩, fun z => by omega⟩
      refine q_upto (P := fun y => p_fr (r_A B R c) r ≤ y → ∀ N2 u5, fr249 M N2 → mg_M q (mg_ws (B 8 1) (w_fi (r_W R c) + k) B (200 * c + 20 * p_ri (r_A B R c) r + p_fr (r_A B R c) r) (mg_pl (p_T (r_A B R c) (B 0 c) (B 8 1)) (w_P (r_W R c)) k r) (y - p_fr (r_A B R c) r).toNat s1) N2 → b249_82 d h F (w_fi (r_W R c) + k) c r y u5 N2) (a := p_fr (r_A B R c) r) (b := p_to (r_A B R c) r) (by omega) (fun _ N2 u5 O3 sM3 => ?_) (fun y y0 y1 ihy _ N2 u5 O3 sM3 => ?_) (Int.le_refl _) N u5 O (by rw [show (p_fr (r_A B R c) r - p_fr (r_A B R c) r).toNat = 0 by omega]; exact sM)
      · refine w249_82 hS ⟨⟨by omega, by omega⟩, ⟨by omega, by omega⟩, ⟨by omega, by omega⟩, fun z => by rw [O3 91 _ _ (by omega), row.2.2.2.1] at z; omega, fun _ => ⟨⟨by omega, by omega⟩, ih (by omega) N2 _ _ O3 ?_⟩⟩
        rw [show (r + 1 - g_bf (w_P (r_W R c)) 0 k).toNat = (r - g_bf (w_P (r_W R c)) 0 k).toNat + 1 by omega]
        show mg_M q (mg_ws (B 8 1) (w_fi (r_W R c) + k) B (200 * c + 20 * p_ri (r_A B R c) (g_bf (w_P (r_W R c)) 0 k + ((r - g_bf (w_P (r_W R c)) 0 k).toNat : Int)) + p_fr (r_A B R c) (g_bf (w_P (r_W R c)) 0 k + ((r - g_bf (w_P (r_W R c)) 0 k).toNat : Int))) (mg_pl (p_T (r_A B R c) (B 0 c) (B 8 1)) (w_P (r_W R c)) k (g_bf (w_P (r_W R c)) 0 k + ((r - g_bf (w_P (r_W R c)) 0 k).toNat : Int))) (p_to (r_A B R c) (g_bf (w_P (r_W R c)) 0 k + ((r - g_bf (w_P (r_W R c)) 0 k).toNat : Int)) - p_fr (r_A B R c) (g_bf (w_P (r_W R c)) 0 k + ((r - g_bf (w_P (r_W R c)) 0 k).toNat : Int))).toNat (mg_rows (B 8 1) (w_fi (r_W R c) + k) B (r_A B R c) c (g_bf (w_P (r_W R c)) 0 k) (mg_pl (p_T (r_A B R c) (B 0 c) (B 8 1)) (w_P (r_W R c)) k) (r - g_bf (w_P (r_W R c)) 0 k).toNat s0)) N2
        rw [show g_bf (w_P (r_W R c)) 0 (k : Int) + (((r - g_bf (w_P (r_W R c)) 0 k).toNat : Nat) : Int) = r by omega, hs1]
        exact sM3
      · have ty := tw y ⟨y0, y1⟩
        have bk2 : m_bk B N2 := m_bk_fr hbk (fun k s z => O3 _ _ _ (by omega))
        have bk := bk2.2.2.1 (200 * c + 20 * p_ri (r_A B R c) r + y) (by omega) (by omega)
        have okw := mg_ws_ok (w := mg_pl (p_T (r_A B R c) (B 0 c) (B 8 1)) (w_P (r_W R c)) k r) (pg := w_fi (r_W R c) + k) hB hD (x0 := 200 * c + 20 * p_ri (r_A B R c) r + p_fr (r_A B R c) r) ⟨by omega, hc.1⟩ (y - p_fr (r_A B R c) r).toNat (fun i i0 i1 => by
          have t := tw (p_fr (r_A B R c) r + i) ⟨by omega, by omega⟩
          rw [show 200 * c + 20 * p_ri (r_A B R c) r + p_fr (r_A B R c) r + i = 200 * c + 20 * p_ri (r_A B R c) r + (p_fr (r_A B R c) r + i) by omega]
          exact ⟨t.1, by omega⟩) (mg_ok_mono rows (mg_ct_mono (by omega) gapr.2.1))
        rw [show 200 * c + 20 * p_ri (r_A B R c) r + p_fr (r_A B R c) r + (((y - p_fr (r_A B R c) r).toNat : Nat) : Int) = 200 * c + 20 * p_ri (r_A B R c) r + y by omega] at okw
        have cs := mg_ct_s (c := c) (y := 200 * c + 20 * p_ri (r_A B R c) r + y) (by omega) ty.1
        have cm := mg_ct_mono (B := B) (c := c) (y := 200 * c + 20 * p_ri (r_A B R c) r + y + 1) (z := 200 * (c + 1)) (by omega) (by omega)
        have okn := okw.2.1
        have unf : mg_ws (B 8 1) (w_fi (r_W R c) + k) B (200 * c + 20 * p_ri (r_A B R c) r + p_fr (r_A B R c) r) (mg_pl (p_T (r_A B R c) (B 0 c) (B 8 1)) (w_P (r_W R c)) k r) (y + 1 - p_fr (r_A B R c) r).toNat s1 = if B 4 (200 * c + 20 * p_ri (r_A B R c) r + y) = 5 then mg_step (B 8 1) (w_fi (r_W R c) + k) (200 * c + 20 * p_ri (r_A B R c) r + y) (B 5 (200 * c + 20 * p_ri (r_A B R c) r + y)) (mg_pl (p_T (r_A B R c) (B 0 c) (B 8 1)) (w_P (r_W R c)) k r) (mg_ws (B 8 1) (w_fi (r_W R c) + k) B (200 * c + 20 * p_ri (r_A B R c) r + p_fr (r_A B R c) r) (mg_pl (p_T (r_A B R c) (B 0 c) (B 8 1)) (w_P (r_W R c)) k r) (y - p_fr (r_A B R c) r).toNat s1) else mg_ws (B 8 1) (w_fi (r_W R c) + k) B (200 * c + 20 * p_ri (r_A B R c) r + p_fr (r_A B R c) r) (mg_pl (p_T (r_A B R c) (B 0 c) (B 8 1)) (w_P (r_W R c)) k r) (y - p_fr (r_A B R c) r).toNat s1 := by
          rw [show (y + 1 - p_fr (r_A B R c) r).toNat = (y - p_fr (r_A B R c) r).toNat + 1 by omega]
          show (if B 4 (200 * c + 20 * p_ri (r_A B R c) r + p_fr (r_A B R c) r + ((y - p_fr (r_A B R c) r).toNat : Int)) = 5 then mg_step (B 8 1) (w_fi (r_W R c) + k) (200 * c + 20 * p_ri (r_A B R c) r + p_fr (r_A B R c) r + ((y - p_fr (r_A B R c) r).toNat : Int)) (B 5 (200 * c + 20 * p_ri (r_A B R c) r + p_fr (r_A B R c) r + ((y - p_fr (r_A B R c) r).toNat : Int))) (mg_pl (p_T (r_A B R c) (B 0 c) (B 8 1)) (w_P (r_W R c)) k r) (mg_ws (B 8 1) (w_fi (r_W R c) + k) B (200 * c + 20 * p_ri (r_A B R c) r + p_fr (r_A B R c) r) (mg_pl (p_T (r_A B R c) (B 0 c) (B 8 1)) (w_P (r_W R c)) k r) (y - p_fr (r_A B R c) r).toNat s1) else mg_ws (B 8 1) (w_fi (r_W R c) + k) B (200 * c + 20 * p_ri (r_A B R c) r + p_fr (r_A B R c) r) (mg_pl (p_T (r_A B R c) (B 0 c) (B 8 1)) (w_P (r_W R c)) k r) (y - p_fr (r_A B R c) r).toNat s1) = _
          rw [show 200 * c + 20 * p_ri (r_A B R c) r + p_fr (r_A B R c) r + (((y - p_fr (r_A B R c) r).toNat : Nat) : Int) = 200 * c + 20 * p_ri (r_A B R c) r + y by omega]
        refine w249_82 hS ⟨⟨by omega, by omega⟩, ⟨by omega, by omega⟩, ⟨by omega, by omega⟩, fun _ => ⟨⟨by omega, by omega⟩, ⟨by omega, by omega⟩, ⟨by omega, by omega⟩, ?_⟩, fun z => by rw [O3 91 _ _ (by omega), row.2.2.2.1] at z; omega⟩
        rw [O3 88 _ _ (by omega), row.1]
        refine t158 hS hc (by omega) (by omega) ?_
        have pid : p_id c (p_ri (r_A B R c) r) y = 200 * c + 20 * p_ri (r_A B R c) r + y := by unfold p_id; omega
        rw [pid, bk.1]
        refine ⟨⟨by omega, by omega⟩, fun q5 => ?_, fun q5 => ⟨⟨by omega, by omega⟩, ihy (by omega) N2 _ O3 (by rw [unf, if_neg q5]; exact sM3)⟩⟩
        have mcd2 : ∀ (k : Nat) (s : Int), 81 ≤ k ∧ k ≤ 116 → N2 k 0 s = M k 0 s := fun k s z => O3 _ _ _ (by omega)
        have cdR : p_mR (r_A B R c) c (p_SR (r_A B R c) (B 0 c)) N2 := ⟨by rw [O3 _ _ _ (by omega)]; exact cd.1.1, fun q a b => by
          have := cd.1.2 q a b
          rw [O3 _ _ _ (by omega), O3 _ _ _ (by omega), O3 _ _ _ (by omega), O3 _ _ _ (by omega)]
          exact ⟨this.1, this.2.1, this.2.2.1, this.2.2.2.1, fun w x y => by rw [O3 _ _ _ (by omega)]; exact this.2.2.2.2 w x y⟩⟩
        have fl := m_fl (B := B) ok hc hN bk2 hD (fun k => by rw [O3 _ _ _ (by omega)]; exact h81 k) (rep N2 O3) cdR ⟨by rw [O3 _ _ _ (by omega)]; exact cd.2.2.2.2.2.1, by rw [O3 _ _ _ (by omega)]; exact cd.2.2.2.2.2.2.1, fun i w a b c' d' => ⟨fun q => by rw [O3 _ _ _ (by omega)]; exact (cd.2.2.2.2.2.2.2 i w a b c' d').1 q, fun q k k0 k1 => by rw [O3 _ _ _ (by omega), O3 _ _ _ (by omega)]; exact (cd.2.2.2.2.2.2.2 i w a b c' d').2 q k k0 k1⟩⟩
        refine t247 hS (T := p_T (r_A B R c) (B 0 c) (B 8 1)) (P := w_P (r_W R c)) (k := k) (A := r_A B R c) (cnt := B 0 c) (wr := 0) ok.1 hc ⟨by omega, by omega⟩ (fun x => rfl) ⟨r0, r1⟩ a1.1 cdR (by omega) t67 p3.1 (fun z => ⟨⟨f0.1, by omega⟩, fl _ f0.1 (by omega)⟩) bb (by rw [O3 _ _ _ (by omega)]; exact pg.1) (by rw [O3 _ _ _ (by omega)]; exact pg.2.1) (by rw [O3 _ _ _ (by omega)]; exact pg.2.2.2.1) (by rw [O3 _ _ _ (by omega)]; exact pg.2.2.2.2.1) (by rw [O3 _ _ _ (by omega)]; exact pg.2.2.2.2.2.2.2.1) ?_
        refine t248s hS (c := c) hB bk2 ⟨by omega, by omega⟩ ⟨plb.1, by omega⟩ sM3 okw (by omega) ⟨by omega, by omega⟩ (fun N3 O4 sM4 => ⟨⟨by omega, by omega⟩, ihy (by omega) N3 _ (fun k m z q => by rw [O4 k m z (by omega)]; exact O3 k m z q) (by rw [unf, if_pos q5]; exact sM4)⟩)
  · have wd := mok.2.2 j j0 j1
    have ov := mg_over_ok (pg := w_fi (r_W R c) + k) hB hD mok j.toNat (by omega)
    have ovn := ov.2.1
    refine w249_19 hS ⟨fun _ => ⟨⟨j0, by omega⟩, ?_⟩, fun z => by omega⟩
    rw [n136 j j0 j1]
    refine t248s hS (c := c) hB (m_bk_fr hbk (fun k s z => O _ _ _ (by omega))) ⟨by omega, by omega⟩ ⟨Int.le_refl _, by decide⟩ sM ov (by omega) ⟨by omega, by omega⟩ (fun N3 O4 sM4 => ⟨⟨by omega, by omega⟩, ih (by omega) N3 _ _ (fun k m z q => by rw [O4 k m z (by omega)]; exact O k m z q) (by rw [O4 _ _ _ (by omega)]; exact n95) (fun i a b => by rw [O4 _ _ _ (by omega)]; exact n136 i a b) ?_⟩)
    rw [show (j + 1).toNat = j.toNat + 1 by omega]
    show mg_M q (mg_step (B 8 1) (w_fi (r_W R c) + k) (mg_o (c_mgn B R c k) (j.toNat : Int)) (B 5 (mg_o (c_mgn B R c k) (j.toNat : Int))) 0 (mg_over (B 8 1) (w_fi (r_W R c) + k) (B 5) (mg_o (c_mgn B R c k)) j.toNat (mg_begin (c_mgn B R c k)))) N3
    rw [show ((j.toNat : Nat) : Int) = j by omega]
    exact sM4
