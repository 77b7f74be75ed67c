/-! ===== the margins of the rows of a page of the law ===== -/
section
variable {d : Nat} {h : qH} {f : Int → qH → qM → Prop} {B : pT} {L C W : Int → Int} {E : Int → Int → Int} {c D no nn p0 ct cw k : Int} {P : pT} {ans : Int → Int} {M : qM}
theorem k_220 {s1 : c_Mg} (hS : qSe h) (hB : c_ok B) (hB2 : c_ok2 B) (hl : k_lim B) (hL : c_lines B W L C E) (hbk : k_bk B M) (hc : 0 ≤ c ∧ c < 3) (hK : k_ch (c_A B L E c) (B 0 c) c D M) (hf : k_flt (c_A B L E c) (B 0 c) c M) (pgs : g_pages (p_T (c_A B L E c) (B 0 c) D) P ct cw) (hP : k_Pg P ct p0 c M) (hp0 : 0 ≤ p0 ∧ p0 + ct ≤ 61) (hk : 0 ≤ k ∧ k < ct)
    (Hok : ∀ j : Nat, g_bf P 0 k + j < P 0 k → mg_ok B c 16 (mg_rows D (p0 + 1 + k) B (c_A B L E c) c (g_bf P 0 k) (mg_pl (p_T (c_A B L E c) (B 0 c) D) P k) j s1) ∧ mg_n (mg_rows D (p0 + 1 + k) B (c_A B L E c) c (g_bf P 0 k) (mg_pl (p_T (c_A B L E c) (B 0 c) D) P k) j s1) + (p_to (c_A B L E c) (g_bf P 0 k + j) - p_fr (c_A B L E c) (g_bf P 0 k + j)) ≤ 20 ∧ 0 ≤ mg_pl (p_T (c_A B L E c) (B 0 c) D) P k (g_bf P 0 k + j) ∧ mg_pl (p_T (c_A B L E c) (B 0 c) D) P k (g_bf P 0 k + j) ≤ 100)
    (Hm : ∀ M', k_98 M M' → ∀ i w, 0 ≤ i → i < B 0 c → 0 ≤ w → w < B 3 (10 * c + i) → ∀ F : Int → qH → qM → Prop, F (ans (200 * c + 20 * i + w)) h M' → e180 (d + 5) h c i w M' F)
    (Hst : ∀ v : Nat, g_bf P 0 k + v < P 0 k → ∀ j : Nat, (j : Int) < p_to (c_A B L E c) (g_bf P 0 k + v) - p_fr (c_A B L E c) (g_bf P 0 k + v) → ∀ s, s = mg_ws D (p0 + 1 + k) B (200 * c + 20 * p_ri (c_A B L E c) (g_bf P 0 k + v) + p_fr (c_A B L E c) (g_bf P 0 k + v)) (mg_pl (p_T (c_A B L E c) (B 0 c) D) P k (g_bf P 0 k + v)) j (mg_rows D (p0 + 1 + k) B (c_A B L E c) c (g_bf P 0 k) (mg_pl (p_T (c_A B L E c) (B 0 c) D) P k) v s1) → ∀ y, y = 200 * c + 20 * p_ri (c_A B L E c) (g_bf P 0 k + v) + p_fr (c_A B L E c) (g_bf P 0 k + v) + j → B 4 y = 5 → mg_e s ≤ b_at (mg_pl (p_T (c_A B L E c) (B 0 c) D) P k (g_bf P 0 k + v)) (mg_e s) D (B 5 y) → ans y = 100 * (p0 + 1 + k) + b_at (mg_pl (p_T (c_A B L E c) (B 0 c) D) P k (g_bf P 0 k + v)) (mg_e s) D (B 5 y))
    (H : ∀ M' s, s = mg_rows D (p0 + 1 + k) B (c_A B L E c) c (g_bf P 0 k) (mg_pl (p_T (c_A B L E c) (B 0 c) D) P k) (P 0 k - g_bf P 0 k).toNat s1 → k_98 M M' → (∀ i, M' 98 no i = M 98 no i) → (∀ i, 0 ≤ i → i < mg_n s → M' 99 nn i = k_wc (mg_o s i)) → ∀ u12 u13 u15 u17 u18 u19 u20 u21 : qV, b220_436 d h f c no nn (mg_n s) (p0 + 1 + k) u12 u13 (mg_n s) u15 0 u17 u18 u19 u20 u21 M') :
    ∀ (t j : Nat) (M1 : qM) (s : c_Mg) (u10 u17 u18 u19 u20 u21 : qV), P 0 k - g_bf P 0 k - j ≤ t → g_bf P 0 k + j ≤ P 0 k → s = mg_rows D (p0 + 1 + k) B (c_A B L E c) c (g_bf P 0 k) (mg_pl (p_T (c_A B L E c) (B 0 c) D) P k) j s1 → k_98 M M1 → (∀ i, M1 98 no i = M 98 no i) → (∀ i, 0 ≤ i → i < mg_n s → M1 99 nn i = k_wc (mg_o s i)) → b220_220 d h f c no nn u10 (p0 + 1 + k) (g_bf P 0 k) (P 0 k - g_bf P 0 k) (mg_n s) (mg_e s) (g_bf P 0 k + j) u17 u18 u19 u20 u21 M1 := by
  have sz := hK.1
  have ur := (k_pkr sz hK.2.1 pgs hk).1
  have s16 := sz.2.2.2.2
  have fin : ∀ (j : Nat) (M1 : qM) (s : c_Mg) (u10 u17 u18 u19 u20 u21 : qV), g_bf P 0 k + j = P 0 k → s = mg_rows D (p0 + 1 + k) B (c_A B L E c) c (g_bf P 0 k) (mg_pl (p_T (c_A B L E c) (B 0 c) D) P k) j s1 → k_98 M M1 → (∀ i, M1 98 no i = M 98 no i) → (∀ i, 0 ≤ i → i < mg_n s → M1 99 nn i = k_wc (mg_o s i)) → b220_220 d h f c no nn u10 (p0 + 1 + k) (g_bf P 0 k) (P 0 k - g_bf P 0 k) (mg_n s) (mg_e s) (g_bf P 0 k + j) u17 u18 u19 u20 u21 M1 := by
    intro j M1 s u10 u17 u18 u19 u20 u21 e hs O1 e98 e99
    have ej : j = (P 0 k - g_bf P 0 k).toNat := by omega
    refine w220_220 hS ⟨⟨by omega, by omega⟩, fun z => absurd z (by omega), fun _ => H M1 s (by rw [← ej]; exact hs) O1 e98 e99 _ _ _ _ _ _ _ _⟩
  intro t
  induction t with
  | zero => intro j M1 s u10 u17 u18 u19 u20 u21 ht hj hs O1 e98 e99; exact fin j M1 s _ _ _ _ _ _ (by omega) hs O1 e98 e99
  | succ t ih =>
    intro j M1 s u10 u17 u18 u19 u20 u21 ht hj hs O1 e98 e99
    by_cases e : g_bf P 0 k + j = P 0 k
    · exact fin j M1 s _ _ _ _ _ _ e hs O1 e98 e99
    have lt : g_bf P 0 k + (j : Int) < P 0 k := by omega
    have ho := Hok j lt
    obtain ⟨r1, r2, r3, r4⟩ := k_row sz hK.2.2.2.1 (Int.le_refl _) (q := g_bf P 0 k + j) ⟨by omega, by omega⟩
    refine w220_220 hS ⟨⟨by omega, by omega⟩, fun _ => ⟨⟨by omega, by omega⟩, ⟨by omega, by omega⟩, ⟨by omega, by omega⟩, ⟨by omega, by omega⟩, ?_⟩, fun z => absurd (show g_bf P 0 k + (j : Int) < g_bf P 0 k + (P 0 k - g_bf P 0 k) by omega) z⟩
    rw [O1 71 _ _ (by decide) (by decide), k_a15, r2]
    refine ⟨⟨by omega, by omega⟩, L195 hS ?_⟩
    rw [r3]
    have inner := k_262 (d := d) (h := h) (f := f) (no := no) (nn := nn) (ans := ans) (M := M) (sr := s) (r := g_bf P 0 k + j) (x12 := g_bf P 0 k) (x13 := P 0 k - g_bf P 0 k) (u10 := u10) hS hB hB2 hl hL hbk hc hK hf pgs hP hp0 hk ⟨by omega, lt⟩ (by rw [hs]; exact ho.1) (by rw [hs]; exact ho.2.1) Hm (fun v hv s' hs' y hy k5 q => Hst j lt v hv s' (by rw [hs', hs]) y hy k5 q) ho.2.2 (fun M2 s2 hs2 O2 x98 x99 u17 u18 u19 u20 u21 => by
      have := ih (j + 1) M2 s2 u10 u17 u18 u19 u20 u21 (by omega) (by omega) (by rw [hs2, hs]; rfl) O2 x98 x99
      rw [show g_bf P 0 k + ((j + 1 : Nat) : Int) = g_bf P 0 k + j + 1 by omega] at this
      exact this) (p_to (c_A B L E c) (g_bf P 0 k + j) - p_fr (c_A B L E c) (g_bf P 0 k + j)).toNat 0 M1 s u20 u21 (by omega) (by omega) rfl O1 e98 e99 (by rw [hs]; exact mg_ok_N ho.1 (by omega))
    rw [show p_fr (c_A B L E c) (g_bf P 0 k + j) + ((0 : Nat) : Int) = p_fr (c_A B L E c) (g_bf P 0 k + j) by omega] at inner
    exact inner
end
