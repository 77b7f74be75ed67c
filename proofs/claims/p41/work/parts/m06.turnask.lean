/-! ===== what the law asks behind a turn ===== -/
section
variable {d : Nat} {h : qH} {sc : Int × (Int → Int)} {f : Int → qH → qM → Prop} {x25 : Int} {M : qM} {B : pT} {n en L : Int} {W : Int → Int} {R : c_R}
theorem l_ask_sx {N : qM} (hq : l_ask B en W R L M) (fr : k_sx M N) : l_ask B en W R L N := by
  obtain ⟨a1, a2, a3, a4, a5, a6⟩ := hq
  refine ⟨k_as_fr a1 fr, k_all_fr a2 fr, a3, ?_, ?_, ?_⟩
  · rw [fr 76 0 28 (by decide) (by decide) (by decide) (by decide)]; exact a4
  · rw [fr 76 0 9 (by decide) (by decide) (by decide) (by decide), fr 2 0 9 (by decide) (by decide) (by decide) (by decide)]; exact a5
  · rw [fr 76 0 8 (by decide) (by decide) (by decide) (by decide), fr 2 0 10 (by decide) (by decide) (by decide) (by decide)]; exact a6
theorem z_kd_ex {p : Int} : ∃ v, z_kd B R p v := by
  by_cases q : p ≤ c_p0 B
  · exact ⟨3, Or.inl ⟨q, rfl⟩⟩
  · by_cases q2 : ∃ c, (0 ≤ c ∧ c < 3) ∧ (w_fi (r_W R c) ≤ p ∧ p < w_fi (r_W R c) + w_ct (r_W R c))
    · obtain ⟨c, a, b⟩ := q2
      exact ⟨c, Or.inr (Or.inl ⟨by omega, a, b⟩)⟩
    · exact ⟨_, Or.inr (Or.inr ⟨by omega, fun c a b z => q2 ⟨c, ⟨a, b⟩, z⟩, rfl⟩)⟩
/-- a chapter's sums and its least cost -/
theorem k_1436 {u : Nat} {c : Int} {u26 u27 u28 u29 u30 : qV} (hu : k_h u h) (hx : k_as B en W R L M) (hc : 0 ≤ c ∧ c < 3) (K : ∀ h' N, k_h (u + 11) h' → k_sx M N → ∀ u32 u33 u34, b269_1570 (d + 8) h' sc f x25 u26 u27 u28 u29 u30 c u32 u33 u34 N) {u32 u33 u34 : qV} : b269_1436 (d + 8) h sc f x25 u26 u27 u28 u29 u30 c u32 u33 u34 M := by
  have hB := hx.1.1.1.1.1
  have hB2 := hx.1.1.1.1.2
  have zx := hx.1.1.2.2 hx.1.2
  obtain ⟨ob, B1, R1, out⟩ := zx.2.2.1
  have hD := hB.2.2.2.2.2.2.2.1
  have sz : k_sz (r_A B R c) (B 0 c) c := (k_szA hB hx.2.1.1 out.1 hc).1
  have t16 := sz.2.2.2.2
  have b0 := (hB.1 c hc.1 hc.2).1.1
  have s0 : 0 ≤ p_SR (r_A B R c) (B 0 c) := p_SR_le sz.2.2.2.1.1 (i := 0) ⟨Int.le_refl _, b0⟩
  have hT := p_T_tab (D := B 8 1) sz.2.2.2.1 hD
  have T8 := p_T_8 (A := r_A B R c) (cnt := B 0 c) (D := B 8 1)
  have e19 : M 76 0 (19 + c) = p_SR (r_A B R c) (B 0 c) := by
    by_cases N0 : 0 < B 0 c
    · exact ((hx.2.2.2.2.2.1 c hc.1 hc.2).2 N0).1
    · rw [((hx.2.2.2.2.2.1 c hc.1 hc.2).1 (by omega)).2.2.2.1, show B 0 c = 0 by omega]; rfl
  have K1 := k_h_new (k := 96) (j := 1) (w := 24) hu (by decide) (Nat.le_refl _) (by omega)
  have K2 := k_h_new (k := 97) (j := 2) (w := 26) K1 (by decide) (by omega) (by omega)
  refine w269_1436 hu.1 ⟨hu.2.1 _, fun sn esn M1 f1 z1 g1 => ?_⟩
  subst g1
  refine ⟨K1.2.1 _, fun nc enc M2 f2 z2 g2 => ?_⟩
  subst g2
  have O2 : ∀ (a : Nat) (o s : Int), ¬ (a = 96 ∨ a = 97) → M2 a o s = M a o s := fun a o s z => by rw [f2, lNm_o (fun y => z (Or.inr y.1)), f1, lNm_o (fun y => z (Or.inl y.1))]
  have sx2 : k_sx M M2 := fun k o s a b _ _ => O2 k o s (by omega)
  have x2 := k_as_fr hx sx2
  have ch : 0 < B 0 c → ∀ N, k_sx M N → k_ch (r_A B R c) (B 0 c) c (B 8 1) N := fun N0 N sx => by
    have xN := k_as_fr hx sx
    have cm := (xN.2.2.2.2.2.1 c hc.1 hc.2).2 N0
    exact k_chA hB hB2 hx.2.1.1 out.1 hc xN.2.2.1 cm.1 cm.2.1
  have z0 : p_fl (r_A B R c) 0 = 0 ∧ p_nl (r_A B R c) 0 = 0 := ⟨rfl, rfl⟩
  -- the sums
  refine q_upto (P := fun r => 1 ≤ r → ∀ N, (∀ (a : Nat) (o s : Int), ¬ (a = 96 ∧ o = sn) → N a o s = M2 a o s) → (∀ q, 0 ≤ q → q < r → N 96 sn q = p_nl (r_A B R c) q + 16 * p_fl (r_A B R c) q) → b269_1451 (d + 8) (lNh (lNh h 96 24) 97 26) sc f x25 u26 u27 u28 u29 u30 c sn nc r N) (a := 1) (b := p_SR (r_A B R c) (B 0 c) + 1) (by omega) (fun _ N O v => ?_) (fun r r0 r1 ih _ N O v => ?_) (Int.le_refl _) M2 (fun _ _ _ _ => rfl) (fun q a b => ?_)
  · have sx : k_sx M N := fun k o s a b c' e => by rw [O k o s (by omega)]; exact sx2 k o s a b c' e
    have xN := k_as_fr hx sx
    have eN : N 76 0 (19 + c) = p_SR (r_A B R c) (B 0 c) := by rw [sx _ _ _ (by decide) (by decide) (by decide) (by omega)]; exact e19
    refine w269_1451 K2.1 ⟨⟨by omega, by omega⟩, ⟨by omega, by omega⟩, fun z => by omega, fun _ => ?_⟩
    -- least cost
    refine w269_1503 K2.1 (A175 K2.1 xN.1.1 (fun _ _ s8 M3 f77 => ?_) (fun _ z => ?_) (fun z => absurd hc z))
    · have sx3 : k_sx N M3 := fun k o s a _ _ _ => f77 k o s (by omega)
      have sxM : k_sx M M3 := k_sx_t sx sx3
      have e3 : M3 76 0 (19 + c) = p_SR (r_A B R c) (B 0 c) := by rw [sx3 _ _ _ (by decide) (by decide) (by decide) (by omega)]; exact eN
      rw [e3]
      refine ⟨⟨by omega, by omega⟩, ⟨by omega, by omega⟩, fun _ => ⟨⟨by omega, by omega⟩, ⟨by omega, by omega⟩, fun z => ?_, fun z => ?_⟩, fun z => absurd s8 z⟩
      · rw [if_pos z]
        exact ⟨fun _ => K _ M3 (k_h_up K2 (by omega)) sxM _ _ _, fun y => absurd rfl y⟩
      · rw [if_neg z]
        have N0 : 0 < B 0 c := Classical.byContradiction fun y => z (by rw [show B 0 c = 0 by omega]; rfl)
        have mk := (z_mk hB zx hc).2 N0
        have cmN := (k_as_fr hx sxM).2.2.2.2.2.1 c hc.1 hc.2
        have fz := (cmN.2 N0).2.2.1
        have env : k_env (r_A B R c) (B 0 c) c (B 8 1) sn M3 := ⟨ch N0 M3 sxM, fun r a b => by rw [f77 _ _ _ (by omega)]; exact v r a (by omega), k_flt_fz sz fz, fz.2.2.1, fz.2.2.2⟩
        have g0 := mk.2.2.2.2.2.2.1 0 (Int.le_refl _) (by omega)
        rw [k_bf0, k_bf0, k_bf0] at g0
        have fin := (g_V_fin hT mk.2.2 (w_wr (r_W R c)).toNat 0 15 (by omega) (by decide) (by have := mk.2.2.1; omega) (by decide)).2
        rw [k_bf0, k_bf0, k_bf0, T8.1] at fin
        have eI : g_I = 268435456 := rfl
        have lt : g_V (p_T (r_A B R c) (B 0 c) (B 8 1)) g_I 0 0 0 15 < g_I := by omega
        refine L204 K2 (Or.inr rfl) ⟨by decide, by omega⟩ g0 (x := 15) ⟨by decide, by decide⟩ ⟨fun y => absurd y (by decide), fun y => absurd y (by decide)⟩ (fun _ => rfl) env (fun h' M4 hu4 O4 _ => ?_)
        rw [if_pos lt]
        refine ⟨fun _ => K _ M4 (k_h_up hu4 (by omega)) (k_sx_t sxM (fun k o s a b c' e => O4 k o s (by omega) e (by omega))) _ _ _, fun y => absurd rfl y⟩
    · have s9 : ¬ p_SR (r_A B R c) (B 0 c) ≤ 8 := by
        rcases z with z | z
        · exact absurd z xN.1.2
        · omega
      rw [eN]
      refine ⟨⟨by omega, by omega⟩, ⟨by omega, by omega⟩, fun y => absurd y s9, fun _ => ⟨fun _ => K _ N (k_h_up (k_h_bump K2) (by omega)) sx _ _ _, fun y => absurd rfl y⟩⟩
  · have sx : k_sx M N := fun k o s a b c' e => by rw [O k o s (by omega)]; exact sx2 k o s a b c' e
    have eN : N 76 0 (19 + c) = p_SR (r_A B R c) (B 0 c) := by rw [sx _ _ _ (by decide) (by decide) (by decide) (by omega)]; exact e19
    have N0 : 0 < B 0 c := Classical.byContradiction fun y => by
      have e : p_SR (r_A B R c) (B 0 c) = 0 := by rw [show B 0 c = 0 by omega]; rfl
      omega
    have cN := ch N0 N sx
    have ta := g_tab_at hT (a := r) ⟨by omega, by rw [T8.1]; omega⟩
    rw [T8.2.2.1, T8.2.2.2] at ta
    have e1 : p_T (r_A B R c) (B 0 c) (B 8 1) 1 r = p_fl (r_A B R c) r := rfl
    have e2 : p_T (r_A B R c) (B 0 c) (B 8 1) 2 r = p_nl (r_A B R c) r := rfl
    rw [e1, e2] at ta
    have l4 := sz.2.2.2.1.1.2.2.1
    have l12 := sz.2.2.2.1.1.2.2.2.1
    refine w269_1451 K2.1 ⟨⟨by omega, by omega⟩, ⟨by omega, by omega⟩, fun _ => L197 K2.1 cN ⟨by omega, by omega⟩ (Or.inl ⟨rfl, rfl, rfl⟩) (L197 K2.1 cN ⟨by omega, by omega⟩ (Or.inr ⟨rfl, rfl, rfl⟩) ⟨⟨by omega, by omega⟩, ⟨by omega, by omega⟩, ⟨by omega, by omega⟩, fun N' f' => ⟨⟨by omega, by omega⟩, ih (by omega) N' (fun a o s z => ?_) (fun q a b => ?_)⟩⟩), fun z => by omega⟩
    · rw [f']; unfold qU; rw [if_neg (fun y => z ⟨y.1, y.2.1⟩)]; exact O a o s z
    · rw [f']
      by_cases e : q = r
      · rw [e, qU_s]
      · rw [qU_l e]; exact v q a (by omega)
  · rw [show q = 0 by omega, z0.1, z0.2, f2, lNm_o (by omega), f1, lNm_s]; rfl
end
