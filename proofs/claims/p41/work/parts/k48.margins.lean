/-! ===== the margins of a chapter, as the law sees them ===== -/
section
variable {B Bo : pT} {W : Int → Int} {ob : Prop} {Ro R : c_R} {c : Int}
theorem k_flt_fz {A : pA} {cnt c : Int} {M : qM} (hA : k_sz A cnt c) (h : k_fz A cnt c (p_SF A cnt) (p_SN A cnt) M) : k_flt A cnt c M := by
  intro i w a b e g k3
  refine h.1 i w a b e g k3 ?_
  have s := p_FB_mono hA.2.2.2.1.1 (i := cnt) (w := 0) (i' := i) (w' := w) ⟨by omega, Int.le_refl _⟩ ⟨e, g⟩ ⟨Int.le_refl _, Or.inr rfl⟩ (Or.inl b)
  rw [if_pos k3] at s
  have : p_FB A cnt 0 = p_SF A cnt := by
    unfold p_FB p_PF
    rw [p_sum_0, Int.add_zero]
  omega
theorem mg_ct_n {B : pT} {c x0 : Int} (h0 : 0 ≤ x0) : ∀ m : Nat, (∀ i : Int, 0 ≤ i → i < m → c_there B (x0 + i)) → mg_ct B c (x0 + m) = mg_ct B c x0 + m := by
  intro m
  induction m with
  | zero => intro _; rw [show x0 + ((0 : Nat) : Int) = x0 by omega]; omega
  | succ m ih =>
    intro ht
    have i := ih (fun i a b => ht i a (by omega))
    have s := mg_ct_s (c := c) (y := x0 + m) (by omega) (ht m (by omega) (by omega))
    rw [show x0 + ((m + 1 : Nat) : Int) = x0 + m + 1 by omega, s, i]
    omega
theorem k_pl_b {A : pA} {cnt D ct cw k r : Int} {P : pT} (hA : p_okB A cnt) (hD : 8 ≤ D ∧ D ≤ 14) (h16 : p_SR A cnt ≤ 16) (pg : g_pages (p_T A cnt D) P ct cw) (hk : 0 ≤ k ∧ k < cw) (hr : g_bf P 0 k ≤ r ∧ r < P 0 k) : 0 ≤ mg_pl (p_T A cnt D) P k r ∧ mg_pl (p_T A cnt D) P k r ≤ 100 := by
  have hT := p_T_tab hA hD
  have T8 := p_T_8 (A := A) (cnt := cnt) (D := D)
  have c1 := pg.1
  have up := g_pages_up pg k hk.1 (by omega)
  have at0 := pg.2.2.2.2.1 k hk.1 (by omega)
  have at1 := pg.2.2.2.2.1 (k + 1) (by omega) (by omega)
  have g3 := g_pages_3 hT pg hk
  have a0 := at0.1
  rw [T8.1] at up a0
  have tb := hT.2.2.2.2.2.2.1 (g_bf P 0 k + 1) (r + 1) (by omega) (by omega) (by rw [T8.1]; omega)
  have f0 := at0.2.1.1
  have mn : 0 ≤ mg_min (p_T A cnt D 0 (r + 1) - p_T A cnt D 0 (g_bf P 0 k + 1)) (P 3 k) ∧ mg_min (p_T A cnt D 0 (r + 1) - p_T A cnt D 0 (g_bf P 0 k + 1)) (P 3 k) ≤ 14 := by unfold mg_min; split <;> omega
  have bs : 0 ≤ mg_base (p_T A cnt D) P k ∧ mg_base (p_T A cnt D) P k ≤ 5 := by
    unfold mg_base
    split
    · omega
    · have t4 := hT.2.2.2.2.2.2.2.2.1 (g_bf P 1 k) (g_bf P 1 k + 1) f0 (by omega) (by omega)
      have := t4.2.2 (by omega)
      omega
  unfold mg_pl
  omega
theorem k_rows_b (hB : c_ok B) (hl : k_lim B) (out : c_out B W ob Bo Ro (c_p0 B) R) (hc : 0 ≤ c ∧ c < 3) (hN : 0 < B 0 c) {k : Nat} (hk : (k : Int) < w_wr (r_W R c)) {j : Nat} (hj : g_bf (w_P (r_W R c)) 0 k + j < w_P (r_W R c) 0 k) {pg : Int} {pl : Int → Int} :
    mg_ok B c 16 (mg_rows (B 8 1) pg B (r_A B R c) c (g_bf (w_P (r_W R c)) 0 k) pl j (mg_over (B 8 1) pg (B 5) (mg_o (c_mgn B R c k)) (mg_n (c_mgn B R c k)).toNat (mg_begin (c_mgn B R c k)))) ∧ mg_n (mg_rows (B 8 1) pg B (r_A B R c) c (g_bf (w_P (r_W R c)) 0 k) pl j (mg_over (B 8 1) pg (B 5) (mg_o (c_mgn B R c k)) (mg_n (c_mgn B R c k)).toNat (mg_begin (c_mgn B R c k)))) + (p_to (r_A B R c) (g_bf (w_P (r_W R c)) 0 k + j) - p_fr (r_A B R c) (g_bf (w_P (r_W R c)) 0 k + j)) ≤ 20 := by
  have hDD := hB.2.2.2.2.2.2.2.1
  have sz : k_sz (r_A B R c) (B 0 c) c := (k_szA hB hl out.1 hc).1
  have pgs := ((out.2 c hc.1 hc.2).1.2 hN).2.2
  have c1 := pgs.1
  have up := g_pages_up pgs k (by omega) (by omega)
  have T8 := p_T_8 (A := r_A B R c) (cnt := B 0 c) (D := B 8 1)
  have up2 : w_P (r_W R c) 0 k ≤ p_SR (r_A B R c) (B 0 c) := up.2.1
  have at0 := (pgs.2.2.2.2.1 k (by omega) (by omega)).1.1
  have m := c_mgn_ok hB out hc hN k (by omega)
  have n0 := m.2.1
  have ov := mg_over_ok (pg := pg) hB hDD m (mg_n (c_mgn B R c k)).toNat (by omega)
  have on := ov.2.1
  have ok := sz.2.2.2.1.1
  have r := mg_rows_ok (pl := pl) (pg := pg) (L := r_L R) (E := r_E R) hB hDD hc.1 ok at0 j (by show _ ≤ p_SR (r_A B R c) (B 0 c); omega) (mg_ok_N ov (by show mg_n _ ≤ mg_ct B c (p_xs (r_A B R c) c (g_bf (w_P (r_W R c)) 0 k)); omega))
  have rr : 0 ≤ g_bf (w_P (r_W R c)) 0 k + j ∧ g_bf (w_P (r_W R c)) 0 k + j < p_SR (r_A B R c) (B 0 c) := ⟨by omega, by omega⟩
  have gap := p_xs_gap (c := c) ok rr
  have ri := p_row_in ok rr
  have tw := fun w => c_A_there (B := B) (L := r_L R) (E := r_E R) (w := w) ok hc.1 rr
  have l6 := sz.2.1
  have mono := mg_ct_mono (B := B) (c := c) (y := p_xs (r_A B R c) c (g_bf (w_P (r_W R c)) 0 k + j)) (z := 200 * c + 20 * p_ri (r_A B R c) (g_bf (w_P (r_W R c)) 0 k + j) + p_fr (r_A B R c) (g_bf (w_P (r_W R c)) 0 k + j)) (by omega) gap.2.1
  have cn := mg_ct_n (B := B) (c := c) (x0 := 200 * c + 20 * p_ri (r_A B R c) (g_bf (w_P (r_W R c)) 0 k + j) + p_fr (r_A B R c) (g_bf (w_P (r_W R c)) 0 k + j)) (by omega) (p_to (r_A B R c) (g_bf (w_P (r_W R c)) 0 k + j) - p_fr (r_A B R c) (g_bf (w_P (r_W R c)) 0 k + j)).toNat (fun i a b => by
    have t := (tw (p_fr (r_A B R c) (g_bf (w_P (r_W R c)) 0 k + j) + i) ⟨by show p_fr (r_A B R c) _ ≤ _; omega, by show _ < p_to (r_A B R c) _; omega⟩).1
    rw [show 200 * c + 20 * p_ri (r_A B R c) (g_bf (w_P (r_W R c)) 0 k + j) + p_fr (r_A B R c) (g_bf (w_P (r_W R c)) 0 k + j) + i = 200 * c + 20 * p_ri (r_A B R c) (g_bf (w_P (r_W R c)) 0 k + j) + (p_fr (r_A B R c) (g_bf (w_P (r_W R c)) 0 k + j) + i) by omega]
    exact t)
  have l16 := k_ct_le hB hl hc (y := 200 * c + 20 * p_ri (r_A B R c) (g_bf (w_P (r_W R c)) 0 k + j) + p_fr (r_A B R c) (g_bf (w_P (r_W R c)) 0 k + j) + (((p_to (r_A B R c) (g_bf (w_P (r_W R c)) 0 k + j) - p_fr (r_A B R c) (g_bf (w_P (r_W R c)) 0 k + j)).toNat : Nat) : Int)) ⟨by omega, by omega⟩
  have rn := r.2.1
  have e : p_xs (c_A B (r_L R) (r_E R) c) c (g_bf (w_P (r_W R c)) 0 k + j) = p_xs (r_A B R c) c (g_bf (w_P (r_W R c)) 0 k + j) := rfl
  rw [e] at r rn
  generalize hs : mg_rows (B 8 1) pg B (r_A B R c) c (g_bf (w_P (r_W R c)) 0 k) pl j (mg_over (B 8 1) pg (B 5) (mg_o (c_mgn B R c k)) (mg_n (c_mgn B R c k)).toNat (mg_begin (c_mgn B R c k))) = s at *
  have es : mg_rows (B 8 1) pg B (c_A B (r_L R) (r_E R) c) c (g_bf (w_P (r_W R c)) 0 k) pl j (mg_over (B 8 1) pg (B 5) (mg_o (c_mgn B R c k)) (mg_n (c_mgn B R c k)).toNat (mg_begin (c_mgn B R c k))) = s := hs
  rw [es] at r rn
  exact ⟨mg_ok_N r (by omega), by omega⟩
end
section
variable {d : Nat} {h : qH} {f : Int → qH → qM → Prop} {B Bo : pT} {W : Int → Int} {ob : Prop} {Ro R : c_R} {c : Int} {M : qM}
theorem L220 {u : Nat} (hu : k_h u h) (hB : c_ok B) (hB2 : c_ok2 B) (hl : k_lim B) (hbk : k_bk B M) (out : c_out B W ob Bo Ro (c_p0 B) R) (hh : k_here B R M) (hc : 0 ≤ c ∧ c < 3) (h61 : 0 < B 0 c → w_fi (r_W R c) + w_ct (r_W R c) ≤ 62)
    (Hm : ∀ h' M', k_h (u + 2) h' → k_98 M M' → ∀ i w, 0 ≤ i → i < B 0 c → 0 ≤ w → w < B 3 (10 * c + i) → ∀ F : Int → qH → qM → Prop, F (mg_p (c_mgn B R c (w_wr (r_W R c)).toNat) (200 * c + 20 * i + w)) h' M' → e180 (d + 5) h' c i w M' F)
    (H : ∀ h' M', k_h (u + 2) h' → k_98 M M' → f 1 h' M') : e220 (d + 6) h c M f := by
  have hDD := hB.2.2.2.2.2.2.2.1
  refine w220 (M := M) hu.1 ⟨hu.2.1 98, fun no hno M1 f1 h1 g1 => ?_⟩
  have hu1 : k_h (u + 1) h1 := by rw [g1]; exact k_h_new (j := 1) hu (by decide) (Nat.le_refl _) (Nat.le_refl _)
  refine ⟨hu1.2.1 99, fun nn hnn M2 f2 h2 g2 => ?_⟩
  have hu2 : k_h (u + 2) h2 := by rw [g2]; exact k_h_new (j := 1) hu1 (by decide) (Nat.le_refl _) (Nat.le_refl _)
  have hS := hu2.1
  have O2 : k_98 M M2 := fun k o s a b => by rw [f2, lNm_o (by omega), f1, lNm_o (by omega)]
  have cm := hh c hc.1 hc.2
  have e10 : M2 76 0 (10 + c) = M 76 0 (10 + c) := O2 _ _ _ (by decide) (by decide)
  have e13 : ∀ M', k_98 M M' → M' 76 0 (13 + c) = M 76 0 (13 + c) := fun M' O => O _ _ _ (by decide) (by decide)
  rw [e10]
  refine ⟨⟨by omega, by omega⟩, ⟨by omega, by omega⟩, ?_⟩
  by_cases hN : 0 < B 0 c
  case neg =>
    have z := cm.1 (by omega)
    rw [z.1]
    refine w220_25 hS ⟨⟨by omega, by omega⟩, ⟨by omega, by omega⟩, fun _ => ⟨fun _ => w220_468 hS ⟨fun y => absurd y (by decide), fun _ => H h2 M2 hu2 O2⟩, fun y => absurd (by decide) y⟩, fun y => ?_⟩
    rw [e13 M2 O2, z.2.1] at y
    exact absurd (Int.le_refl _) y
  obtain ⟨c19, crw, cfz, cPg, c10, c13, c16⟩ := cm.2 hN
  have mk := (out.2 c hc.1 hc.2).1.2 hN
  have pgs := mk.2.2
  have c1 := pgs.1
  have h62 := h61 hN
  have fi0 := mk.1
  have szp := k_szA hB hl out.1 hc
  have sz := szp.1
  have K0 : k_ch (c_A B (r_L R) (r_E R) c) (B 0 c) c (B 8 1) M := k_chA hB hB2 hl out.1 hc hbk c19 crw
  have flt := k_flt_fz sz cfz
  obtain ⟨q0, hq0⟩ : ∃ q0, w_fi (r_W R c) = q0 + 1 := ⟨w_fi (r_W R c) - 1, by omega⟩
  have eM : ∀ k : Nat, c_mgn B R c k = mg_pages (B 8 1) B (c_A B (r_L R) (r_E R) c) (p_T (c_A B (r_L R) (r_E R) c) (B 0 c) (B 8 1)) (w_P (r_W R c)) (q0 + 1) c k := fun k => by unfold c_mgn; rw [hq0]; rfl
  rw [hq0, show q0 + 1 - 1 = q0 by omega] at cPg
  have pgk := fun (k : Int) hk => k_pgf (k := k) sz hDD pgs cPg hk
  have pkk := fun (k : Int) hk => k_pkr (k := k) sz hDD pgs hk
  have mcw : ∀ k : Nat, (k : Int) ≤ w_wr (r_W R c) → mg_ok B c 16 (c_mgn B R c k) := fun k hk => k_mgn_16 hB hl out hc hN k hk
  rw [c10, hq0]
  -- the pages
  suffices G : ∀ (t : Nat) (k : Int) (M3 : qM) (n : Int) (u12 u13 u14 u15 u16 u17 u18 u19 u20 u21 : qV), w_ct (r_W R c) - k ≤ t → 0 ≤ k → k ≤ w_ct (r_W R c) → k_98 M M3 → (∃ k' : Nat, (k' : Int) = (if k ≤ w_wr (r_W R c) then k else w_wr (r_W R c)) ∧ n = mg_n (c_mgn B R c k') ∧ ∀ i, 0 ≤ i → i < n → M3 98 no i = k_wc (mg_o (c_mgn B R c k') i)) → b220_25 d h2 f c no nn n (q0 + 1 + k) u12 u13 u14 u15 u16 u17 u18 u19 u20 u21 M3 by
    have g := G (w_ct (r_W R c)).toNat 0 M2 0 q_u q_u q_u q_u q_u q_u q_u q_u q_u q_u (by omega) (by omega) (by omega) O2 ⟨0, by rw [if_pos (by omega)]; rfl, rfl, fun i a b => absurd a (by omega)⟩
    rw [show q0 + 1 + 0 = q0 + 1 by omega] at g
    exact g
  have fin : ∀ (M3 : qM) (n : Int) (u12 u13 u14 u15 u16 u17 u18 u19 u20 u21 : qV), k_98 M M3 → (∃ k' : Nat, (k' : Int) = w_wr (r_W R c) ∧ n = mg_n (c_mgn B R c k') ∧ ∀ i, 0 ≤ i → i < n → M3 98 no i = k_wc (mg_o (c_mgn B R c k') i)) → b220_25 d h2 f c no nn n (q0 + 1 + w_ct (r_W R c)) u12 u13 u14 u15 u16 u17 u18 u19 u20 u21 M3 := by
    intro M3 n u12 u13 u14 u15 u16 u17 u18 u19 u20 u21 O3 ⟨k', ek, en, e98⟩
    subst en
    have ek' : k' = (w_wr (r_W R c)).toNat := by omega
    have un := (mg_pages_m1 (dp := B 8 1) (fi := q0 + 1) (c := c) (B := B) sz.2.2.2.1 hDD pgs k' (by omega)).2
    refine w220_25 hS ⟨⟨by omega, by omega⟩, ⟨by omega, by omega⟩, fun y => ?_, fun _ => ?_⟩
    · rw [e13 M3 O3, c13, hq0] at y
      exact absurd y (by omega)
    · refine k_468 (ans := mg_p (c_mgn B R c (w_wr (r_W R c)).toNat)) (s := c_mgn B R c k') hS hB hl hc (mcw k' (by omega)) e98 (Hm h2 M3 hu2 O3) (fun i a b => ?_) (H h2 M3 hu2 O3) _ _ _ _ _ _ _ _ _ _ _ _ _ _ _ _ _
      rw [← ek', eM k'] at *
      exact un i a b
  intro t
  induction t with
  | zero =>
    intro k M3 n u12 u13 u14 u15 u16 u17 u18 u19 u20 u21 ht k0 k1 O3 hn
    have ek : k = w_ct (r_W R c) := by omega
    subst ek
    rw [show (if w_ct (r_W R c) ≤ w_wr (r_W R c) then w_ct (r_W R c) else w_wr (r_W R c)) = w_wr (r_W R c) by split <;> omega] at hn
    exact fin M3 n _ _ _ _ _ _ _ _ _ _ O3 hn
  | succ t ih =>
    intro k M3 n u12 u13 u14 u15 u16 u17 u18 u19 u20 u21 ht k0 k1 O3 hn
    by_cases ek : k = w_ct (r_W R c)
    · subst ek
      rw [show (if w_ct (r_W R c) ≤ w_wr (r_W R c) then w_ct (r_W R c) else w_wr (r_W R c)) = w_wr (r_W R c) by split <;> omega] at hn
      exact fin M3 n _ _ _ _ _ _ _ _ _ _ O3 hn
    have klt : k < w_ct (r_W R c) := by omega
    have q := pgk k ⟨k0, klt⟩
    have kk := pkk k ⟨k0, klt⟩
    have e74 : M3 74 0 (q0 + 1 + k) = M 74 0 (q0 + 1 + k) := O3 _ _ _ (by decide) (by decide)
    have up := g_pages_up pgs k k0 klt
    have T8 := p_T_8 (A := c_A B (r_L R) (r_E R) c) (cnt := B 0 c) (D := B 8 1)
    have e0 := pgs.2.2.2.1 k
    refine w220_25 hS ⟨⟨by omega, by omega⟩, ⟨by omega, by omega⟩, fun _ => ⟨fun y => absurd y (by omega), fun _ => ⟨⟨by omega, by omega⟩, L206a hS ⟨⟨by omega, by omega⟩, L206n hS ?_⟩⟩⟩, fun y => absurd (by rw [e13 M3 O3, c13, hq0]; omega) y⟩
    rw [e74, q.2.2.1, q.2.2.2.1]
    refine ⟨fun z => ⟨⟨by omega, by omega⟩, ?_⟩, fun z => ?_⟩
    · have kw : w_wr (r_W R c) ≤ k := Classical.byContradiction fun y => by have := up.2.2.1 (by omega); omega
      rw [show q0 + 1 + k + 1 = q0 + 1 + (k + 1) by omega]
      refine ih (k + 1) M3 n _ _ _ _ _ _ _ _ _ _ (by omega) (by omega) (by omega) O3 ?_
      rw [if_neg (by omega)]
      rw [show (if k ≤ w_wr (r_W R c) then k else w_wr (r_W R c)) = w_wr (r_W R c) by split <;> omega] at hn
      exact hn
    · have kw : k < w_wr (r_W R c) := Classical.byContradiction fun y => by have a := e0 (by omega) (by omega); have b := up.2.2.2 (by omega); omega
      rw [if_pos (by omega)] at hn
      obtain ⟨k', ek', en, e98⟩ := hn
      subst ek'
      subst en
      have bk3 : k_bk B M3 := k_bk_fr hbk (fun s => O3 _ _ _ (by decide) (by decide)) (fun it a b => by rw [O3 _ _ _ (by decide) (by decide)]; exact ⟨rfl, (hbk.2.1 it a b).1⟩) (fun s => O3 _ _ _ (by decide) (by decide)) (O3 _ _ _ (by decide) (by decide)) (O3 _ _ _ (by decide) (by decide)) (O3 _ _ _ (by decide) (by decide))
      have K3 : k_ch (c_A B (r_L R) (r_E R) c) (B 0 c) c (B 8 1) M3 := k_ch_cg K0 (fun s => O3 _ _ _ (by decide) (by decide)) (fun s => O3 _ _ _ (by decide) (by decide)) (fun s => O3 _ _ _ (by decide) (by decide)) (O3 _ _ _ (by decide) (by decide)) (O3 _ _ _ (by decide) (by decide))
      have P3 : k_Pg (w_P (r_W R c)) (w_ct (r_W R c)) q0 c M3 := fun k a b => ⟨⟨by rw [O3 _ _ _ (by decide) (by decide)]; exact (cPg k a b).1.1, by rw [O3 _ _ _ (by decide) (by decide)]; exact (cPg k a b).1.2⟩, fun r a' b' => by rw [O3 _ _ _ (by decide) (by decide)]; exact (cPg k a b).2 r a' b'⟩
      have f3 : k_flt (c_A B (r_L R) (r_E R) c) (B 0 c) c M3 := fun i w a b e g k3 => by rw [O3 _ _ _ (by decide) (by decide)]; exact flt i w a b e g k3
      have ok1 := mcw k' (by omega)
      have ok2 := (mcw (k' + 1) (by omega)).2.1
      have nx := fun M4 n u12 u13 u14 u15 u16 u17 u18 u19 u20 u21 O4 hn => ih ((k' : Int) + 1) M4 n u12 u13 u14 u15 u16 u17 u18 u19 u20 u21 (by omega) (by omega) (by omega) O4 hn
      have Hok := fun (j : Nat) (hj : g_bf (w_P (r_W R c)) 0 k' + j < w_P (r_W R c) 0 k') => And.intro (k_rows_b (pg := q0 + 1 + k') (pl := mg_pl (p_T (c_A B (r_L R) (r_E R) c) (B 0 c) (B 8 1)) (w_P (r_W R c)) k') hB hl out hc hN kw hj) (k_pl_b sz.2.2.2.1 hDD sz.2.2.2.2 pgs ⟨by omega, kw⟩ (r := g_bf (w_P (r_W R c)) 0 k' + j) ⟨by omega, hj⟩)
      rw [eM k'] at ok1 e98
      rw [eM (k' + 1)] at ok2
      have Hm' := fun M4 (O4 : k_98 M3 M4) => Hm h2 M4 hu2 (fun a o s x y => by rw [O4 a o s x y, O3 a o s x y])
      rw [eM (w_wr (r_W R c)).toNat] at Hm'
      rw [eM k'] at Hok ⊢
      refine k_onepage (k := k') hS hB hB2 hl out.1 bk3 hc rfl sz.2.2.2.1 K3 f3 pgs P3 ⟨by omega, by omega⟩ kw ok1 e98 (fun j hj => ⟨(Hok j hj).1.1, (Hok j hj).1.2, (Hok j hj).2⟩) ⟨ok2.1, by omega⟩ Hm' (fun M4 O4 x98 u12 u13 u14 u15 u16 u17 u18 u19 u20 u21 => ?_) _ _ _ _ _
      rw [show q0 + 1 + (k' : Int) + 1 = q0 + 1 + ((k' : Int) + 1) by omega]
      refine nx M4 _ _ _ _ _ _ _ _ _ _ _ (fun a o s x y => by rw [O4 a o s x y, O3 a o s x y]) ⟨k' + 1, by rw [if_pos (by omega)]; omega, by rw [eM (k' + 1)], fun i a b => by rw [eM (k' + 1)]; exact x98 i a b⟩
end
