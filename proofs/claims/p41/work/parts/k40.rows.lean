/-! ===== the margins of a row, on a page of the law ===== -/
section
variable {d : Nat} {h : qH} {f : Int → qH → qM → Prop} {B : pT} {L C W : Int → Int} {E : Int → Int → Int} {c D no nn p0 ct cw k r : Int} {P : pT} {ans : Int → Int} {M : qM}
theorem k_262 {sr : c_Mg} {x12 x13 : Int} {u10 : qV} (hS : qSe h) (hB : c_ok B) (hB2 : c_ok2 B) (hl : k_lim B) (hL : c_lines B W L C E) (hbk : k_bk B M) (hc : 0 ≤ c ∧ c < 3) (hK : k_ch (c_A B L E c) (B 0 c) c D M) (hf : k_flt (c_A B L E c) (B 0 c) c M) (pgs : g_pages (p_T (c_A B L E c) (B 0 c) D) P ct cw) (hP : k_Pg P ct p0 c M) (hp0 : 0 ≤ p0 ∧ p0 + ct ≤ 61) (hk : 0 ≤ k ∧ k < ct) (hr : g_bf P 0 k ≤ r ∧ r < P 0 k) (ok0 : mg_ok B c 16 sr)
    (hn : mg_n sr + (p_to (c_A B L E c) r - p_fr (c_A B L E c) r) ≤ 20)
    (Hm : ∀ M', k_98 M M' → ∀ i w, 0 ≤ i → i < B 0 c → 0 ≤ w → w < B 3 (10 * c + i) → ∀ F : Int → qH → qM → Prop, F (ans (200 * c + 20 * i + w)) h M' → e180 (d + 5) h c i w M' F)
    (Hst : ∀ j : Nat, (j : Int) < p_to (c_A B L E c) r - p_fr (c_A B L E c) r → ∀ s, s = mg_ws D (p0 + 1 + k) B (200 * c + 20 * p_ri (c_A B L E c) r + p_fr (c_A B L E c) r) (mg_pl (p_T (c_A B L E c) (B 0 c) D) P k r) j sr → ∀ y, y = 200 * c + 20 * p_ri (c_A B L E c) r + p_fr (c_A B L E c) r + j → B 4 y = 5 → mg_e s ≤ b_at (mg_pl (p_T (c_A B L E c) (B 0 c) D) P k r) (mg_e s) D (B 5 y) → ans y = 100 * (p0 + 1 + k) + b_at (mg_pl (p_T (c_A B L E c) (B 0 c) D) P k r) (mg_e s) D (B 5 y))
    (hpl : 0 ≤ mg_pl (p_T (c_A B L E c) (B 0 c) D) P k r ∧ mg_pl (p_T (c_A B L E c) (B 0 c) D) P k r ≤ 100)
    (H : ∀ M' s, s = mg_ws D (p0 + 1 + k) B (200 * c + 20 * p_ri (c_A B L E c) r + p_fr (c_A B L E c) r) (mg_pl (p_T (c_A B L E c) (B 0 c) D) P k r) (p_to (c_A B L E c) r - p_fr (c_A B L E c) r).toNat sr → k_98 M M' → (∀ i, M' 98 no i = M 98 no i) → (∀ i, 0 ≤ i → i < mg_n s → M' 99 nn i = k_wc (mg_o s i)) → ∀ u17 u18 u19 u20 u21 : qV, b220_220 d h f c no nn u10 (p0 + 1 + k) x12 x13 (mg_n s) (mg_e s) (r + 1) u17 u18 u19 u20 u21 M') :
    ∀ (t j : Nat) (M1 : qM) (s : c_Mg) (u20 u21 : qV), p_to (c_A B L E c) r - p_fr (c_A B L E c) r - j ≤ t → (j : Int) ≤ p_to (c_A B L E c) r - p_fr (c_A B L E c) r → s = mg_ws D (p0 + 1 + k) B (200 * c + 20 * p_ri (c_A B L E c) r + p_fr (c_A B L E c) r) (mg_pl (p_T (c_A B L E c) (B 0 c) D) P k r) j sr → k_98 M M1 → (∀ i, M1 98 no i = M 98 no i) → (∀ i, 0 ≤ i → i < mg_n s → M1 99 nn i = k_wc (mg_o s i)) → mg_ok B c (mg_n sr + j) s → b220_262 d h f c no nn u10 (p0 + 1 + k) x12 x13 (mg_n s) (mg_e s) r (M 71 0 (20 * c + r)) (6 * c + p_ri (c_A B L E c) r) (p_fr (c_A B L E c) r + j) u20 u21 M1 := by
  have hDD := hK.2.1
  have sz := hK.1
  have l6 := sz.2.1
  have ur := (k_pkr sz hDD pgs hk).1
  obtain ⟨r1, r2, r3, r4⟩ := k_row sz hK.2.2.2.1 (Int.le_refl _) (q := r) ⟨by omega, by omega⟩
  have a6 := (k_A (B := B) (L := L) (E := E) (c := c) (k := 6) (i := p_ri (c_A B L E c) r) (w := 0) ⟨r1.1.1, by omega⟩).2.2.2.2.2.2 rfl
  rw [a6] at r1
  have h18 : 0 ≤ 6 * c + p_ri (c_A B L E c) r ∧ 6 * c + p_ri (c_A B L E c) r < 18 := by omega
  have kx : k_x (6 * c + p_ri (c_A B L E c) r) = 10 * c + p_ri (c_A B L E c) r := k_x_c hc ⟨r1.1.1, by omega⟩
  have fin : ∀ (j : Nat) (M1 : qM) (s : c_Mg) (u20 u21 : qV), (j : Int) = p_to (c_A B L E c) r - p_fr (c_A B L E c) r → s = mg_ws D (p0 + 1 + k) B (200 * c + 20 * p_ri (c_A B L E c) r + p_fr (c_A B L E c) r) (mg_pl (p_T (c_A B L E c) (B 0 c) D) P k r) j sr → k_98 M M1 → (∀ i, M1 98 no i = M 98 no i) → (∀ i, 0 ≤ i → i < mg_n s → M1 99 nn i = k_wc (mg_o s i)) → b220_262 d h f c no nn u10 (p0 + 1 + k) x12 x13 (mg_n s) (mg_e s) r (M 71 0 (20 * c + r)) (6 * c + p_ri (c_A B L E c) r) (p_fr (c_A B L E c) r + j) u20 u21 M1 := by
    intro j M1 s u20 u21 e hs O1 e98 e99
    have ej : j = (p_to (c_A B L E c) r - p_fr (c_A B L E c) r).toNat := by omega
    refine w220_262 hS (L196 hS ?_)
    rw [r4]
    exact ⟨fun z => absurd z (by omega), fun _ => ⟨⟨by omega, by omega⟩, H M1 s (by rw [← ej]; exact hs) O1 e98 e99 _ _ _ _ _⟩⟩
  intro t
  induction t with
  | zero => intro j M1 s u20 u21 ht hj hs O1 e98 e99 ok; exact fin j M1 s _ _ (by omega) hs O1 e98 e99
  | succ t ih =>
    intro j M1 s u20 u21 ht hj hs O1 e98 e99 ok
    by_cases e : (j : Int) = p_to (c_A B L E c) r - p_fr (c_A B L E c) r
    · exact fin j M1 s _ _ e hs O1 e98 e99
    have bk1 : k_bk B M1 := k_bk_fr hbk (fun s => O1 _ _ _ (by decide) (by decide)) (fun it a b => by rw [O1 _ _ _ (by decide) (by decide)]; exact ⟨rfl, (hbk.2.1 it a b).1⟩) (fun s => O1 _ _ _ (by decide) (by decide)) (O1 _ _ _ (by decide) (by decide)) (O1 _ _ _ (by decide) (by decide)) (O1 _ _ _ (by decide) (by decide))
    have cd := k_code hB hB2 bk1 h18 (w := p_fr (c_A B L E c) r + j) (by rw [kx]; omega)
    have th := k_there hB2 h18 (w := p_fr (c_A B L E c) r + j) (by rw [kx]; omega) hB
    have kk := k_K hB hB2 h18 (w := p_fr (c_A B L E c) r + j) (by rw [kx]; omega)
    have ey : k_y (6 * c + p_ri (c_A B L E c) r) (p_fr (c_A B L E c) r + j) = 200 * c + 20 * p_ri (c_A B L E c) r + p_fr (c_A B L E c) r + j := by unfold k_y; rw [kx]; omega
    rw [ey] at cd th kk
    rw [kk] at cd
    have v5 := hB.2.2.2.1 (200 * c + 20 * p_ri (c_A B L E c) r + p_fr (c_A B L E c) r + j)
    have oke := ok.1
    have okn := ok.2.1
    have e2 : M1 76 0 2 = D := by rw [O1 _ _ _ (by decide) (by decide)]; exact hK.2.2.1.1
    have st : mg_ws D (p0 + 1 + k) B (200 * c + 20 * p_ri (c_A B L E c) r + p_fr (c_A B L E c) r) (mg_pl (p_T (c_A B L E c) (B 0 c) D) P k r) (j + 1) sr = if B 4 (200 * c + 20 * p_ri (c_A B L E c) r + p_fr (c_A B L E c) r + j) = 5 then mg_step D (p0 + 1 + k) (200 * c + 20 * p_ri (c_A B L E c) r + p_fr (c_A B L E c) r + j) (B 5 (200 * c + 20 * p_ri (c_A B L E c) r + p_fr (c_A B L E c) r + j)) (mg_pl (p_T (c_A B L E c) (B 0 c) D) P k r) s else s := by rw [hs]; rfl
    have hst := Hst j (by omega) s hs _ rfl
    have ih1 := fun (M2 : qM) (s2 : c_Mg) (u20 u21 : qV) (hs2 : s2 = mg_ws D (p0 + 1 + k) B (200 * c + 20 * p_ri (c_A B L E c) r + p_fr (c_A B L E c) r) (mg_pl (p_T (c_A B L E c) (B 0 c) D) P k r) (j + 1) sr) (O2 : k_98 M M2) (x98 : ∀ i, M2 98 no i = M 98 no i) (x99 : ∀ i, 0 ≤ i → i < mg_n s2 → M2 99 nn i = k_wc (mg_o s2 i)) (ok2 : mg_ok B c (mg_n sr + ((j + 1 : Nat) : Int)) s2) => ih (j + 1) M2 s2 u20 u21 (by omega) (by omega) hs2 O2 x98 x99 ok2
    have ejj : p_fr (c_A B L E c) r + ((j + 1 : Nat) : Int) = p_fr (c_A B L E c) r + j + 1 := by omega
    rw [ejj] at ih1
    have e200 : (200 * c + 20 * p_ri (c_A B L E c) r + p_fr (c_A B L E c) r + j) / 200 = c := by omega
    have e10 : (200 * c + 20 * p_ri (c_A B L E c) r + p_fr (c_A B L E c) r + j) / 20 % 10 = p_ri (c_A B L E c) r := by omega
    have e20 : (200 * c + 20 * p_ri (c_A B L E c) r + p_fr (c_A B L E c) r + j) % 20 = p_fr (c_A B L E c) r + j := by omega
    have eyy : 200 * c + 20 * p_ri (c_A B L E c) r + (p_fr (c_A B L E c) r + j) = 200 * c + 20 * p_ri (c_A B L E c) r + p_fr (c_A B L E c) r + j := by omega
    refine w220_262 hS (L196 hS ?_)
    rw [r4]
    refine ⟨fun _ => L187 hS h18 ⟨by omega, by omega⟩ (L188 hS ?_), fun z => absurd (show p_fr (c_A B L E c) r + (j : Int) < p_to (c_A B L E c) r by omega) z⟩
    rw [cd.1]
    refine ⟨fun k5 => L187 hS h18 ⟨by omega, by omega⟩ ?_, fun k5 => ⟨⟨by omega, by omega⟩, ih1 M1 s _ _ (by rw [st, if_neg k5]) O1 e98 e99 (mg_ok_N ok (by omega))⟩⟩
    rw [if_pos k5] at st
    rw [cd.2.1]
    have at1 := k_at_b (w := mg_pl (p_T (c_A B L E c) (B 0 c) D) P k r) (e := mg_e s) (dp := D) (hi := B 5 (200 * c + 20 * p_ri (c_A B L E c) r + p_fr (c_A B L E c) r + j)) oke.1
    have ok1 := mg_step_ok (dp := D) (pg := p0 + 1 + k) (hi := B 5 (200 * c + 20 * p_ri (c_A B L E c) r + p_fr (c_A B L E c) r + j)) (w := mg_pl (p_T (c_A B L E c) (B 0 c) D) P k r) ok hDD v5.1 ⟨⟨by omega, by omega⟩, th.2.1, k5⟩
    have K1 : k_ch (c_A B L E c) (B 0 c) c D M1 := k_ch_cg hK (fun s => O1 _ _ _ (by decide) (by decide)) (fun s => O1 _ _ _ (by decide) (by decide)) (fun s => O1 _ _ _ (by decide) (by decide)) (O1 _ _ _ (by decide) (by decide)) (O1 _ _ _ (by decide) (by decide))
    have P1 : k_Pg P ct p0 c M1 := fun k a b => ⟨⟨by rw [O1 _ _ _ (by decide) (by decide)]; exact (hP k a b).1.1, by rw [O1 _ _ _ (by decide) (by decide)]; exact (hP k a b).1.2⟩, fun r a' b' => by rw [O1 _ _ _ (by decide) (by decide)]; exact (hP k a b).2 r a' b'⟩
    refine L219 hS K1 (fun i w a b e g k3 => by rw [O1 _ _ _ (by decide) (by decide)]; exact hf i w a b e g k3) pgs P1 hp0 hk hr (fun x hx => ?_)
    rw [← hx] at at1
    have xb : 0 ≤ x ∧ x ≤ 100 := by rw [hx]; split <;> omega
    rw [e2]
    refine ⟨⟨by omega, by omega⟩, fun _ => ⟨by omega, by omega⟩, fun z hz => ?_⟩
    rw [← at1] at hz
    generalize 200 * c + 20 * p_ri (c_A B L E c) r + p_fr (c_A B L E c) r + (j : Int) = y at *
    refine ⟨fun lt => ?_, fun ge => ?_⟩
    · have no' : ¬ mg_e s ≤ b_at (mg_pl (p_T (c_A B L E c) (B 0 c) D) P k r) (mg_e s) D (B 5 y) := by omega
      have es : mg_step D (p0 + 1 + k) y (B 5 y) (mg_pl (p_T (c_A B L E c) (B 0 c) D) P k r) s = (mg_p s, fun z => if z = mg_n s then y else mg_o s z, mg_n s + 1, mg_e s) := by unfold mg_step; rw [if_neg no']
      have ewc : 16 * (6 * c + p_ri (c_A B L E c) r) + (p_fr (c_A B L E c) r + j) = k_wc y := by unfold k_wc; rw [e200, e10, e20]
      rw [es] at st ok1
      refine ⟨⟨by omega, by omega⟩, ⟨by omega, by omega⟩, ⟨by omega, by omega⟩, fun M2 f2 => ⟨⟨by omega, by omega⟩, ⟨by omega, by omega⟩, ?_⟩⟩
      rw [ewc] at f2
      refine ih1 M2 (mg_p s, fun z => if z = mg_n s then y else mg_o s z, mg_n s + 1, mg_e s) _ _ st.symm (fun k o s' a b => by rw [f2, qU_k b]; exact O1 k o s' a b) (fun i => by rw [f2, qU_k (by decide)]; exact e98 i) (fun i i0 i1 => ?_) (mg_ok_N ok1.1 ?_)
      · have i1' : i < mg_n s + 1 := i1
        show M2 99 nn i = k_wc (if i = mg_n s then y else mg_o s i)
        by_cases z : i = mg_n s
        · rw [if_pos z, z, f2, qU_s]
        · rw [if_neg z, f2, qU_l z]; exact e99 i i0 (by omega)
      · show mg_n s + 1 ≤ mg_n sr + ((j + 1 : Nat) : Int)
        omega
    · have yes : mg_e s ≤ b_at (mg_pl (p_T (c_A B L E c) (B 0 c) D) P k r) (mg_e s) D (B 5 y) := by omega
      have es : mg_step D (p0 + 1 + k) y (B 5 y) (mg_pl (p_T (c_A B L E c) (B 0 c) D) P k r) s = (fun z => if z = y then 100 * (p0 + 1 + k) + b_at (mg_pl (p_T (c_A B L E c) (B 0 c) D) P k r) (mg_e s) D (B 5 y) else mg_p s z, mg_o s, mg_n s, b_at (mg_pl (p_T (c_A B L E c) (B 0 c) D) P k r) (mg_e s) D (B 5 y) + B 5 y) := by unfold mg_step; rw [if_pos yes]
      rw [es] at st ok1
      have zb : 0 ≤ z ∧ z ≤ 100 := by
        have := oke.1
        rw [hz] at ge ⊢
        refine ⟨by omega, ?_⟩
        rw [at1]
        split <;> omega
      refine ⟨⟨by omega, by omega⟩, by omega, ?_⟩
      rw [show (6 * c + p_ri (c_A B L E c) r) % 6 = p_ri (c_A B L E c) r by omega]
      refine Hm M1 O1 _ _ r1.1.1 r1.1.2.1 (by omega) (by omega) _ ?_
      rw [eyy, hst k5 yes, ← hz]
      refine ⟨⟨by omega, by omega⟩, ⟨by omega, by omega⟩, fun _ => ⟨⟨by omega, by omega⟩, ?_⟩, fun z => absurd rfl z⟩
      rw [← hz] at st ok1
      exact ih1 M1 _ _ _ st.symm O1 e98 (fun i i0 i1 => e99 i i0 i1) (mg_ok_N ok1.1 (by show mg_n s ≤ mg_n sr + ((j + 1 : Nat) : Int); omega))
end
