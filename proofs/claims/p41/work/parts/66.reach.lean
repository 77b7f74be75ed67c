/-! ===== PageMaker.reachBehind ===== -/
/-- the place behind a page -/
def g_nx (T : pT) (a f n b m : Int) : Int := g_place T b (f + m) (n + g_lines T a b f m n)
def g_R70 (T : pT) (M : qM) (p a f n : Int) (done : Int → Int → Prop) (M' : qM) : Prop :=
  (∀ (k : Nat) (m s : Int), ¬ (k = 7 ∧ m = 0 ∧ 5 ≤ s ∧ s ≤ 9) → ¬ (k = 40 ∧ m = 0 ∧ 20 * (a + 1) ≤ s) → M' k m s = M k m s) ∧
  (∀ q, 0 ≤ M' 40 0 q ∧ M' 40 0 q < 65536) ∧
  (∀ q x, q_bs (M 40 0 q) x → q_bs (M' 40 0 q) x) ∧
  (∀ q x, 0 ≤ x → q_bs (M' 40 0 q) x → q_bs (M 40 0 q) x ∨ ∃ b m y, (0 ≤ y ∧ y ≤ 15) ∧ q_bs (M 40 0 p) y ∧ g_can T a f n b m ∧ b < T 8 0 ∧ q = g_nx T a f n b m ∧ x = g_ahead T a b f m n y) ∧
  ∀ b m y, done b m → (0 ≤ y ∧ y ≤ 15) → q_bs (M 40 0 p) y → g_can T a f n b m → b < T 8 0 → q_bs (M' 40 0 (g_nx T a f n b m)) (g_ahead T a b f m n y)
theorem g_can_D {T : pT} (hT : g_tab T) {a f n b m : Int} (hs : g_at T a f n) (hc : g_can T a f n b m) : b ≤ a + T 8 1 := by
  have h1 := hc.2.2.1
  have tb := hT.2.2.2.2.2.2.1 (a + 1) b (by have := hs.1; omega) (by have := hc.1; omega) hc.1.2
  have t4 := hT.2.2.2.2.2.2.2.2.1 f (f + m) hs.2.1.1 (by have := hc.2.1; omega) (by have := hc.2.1; have := g_tab_at hT (a := b) ⟨by have := hs.1; have := hc.1; omega, hc.1.2⟩; omega)
  unfold g_high at h1
  omega
theorem g_can_q {T : pT} (hT : g_tab T) {a f n b m : Int} (hs : g_at T a f n) (hc : g_can T a f n b m) : qIn (f + m) ∧ qIn (n + g_lines T a b f m n) := by
  have nums := (g_nums hT hs hc.1 ⟨hc.2.1.1, hc.2.1.2.2⟩).2.2.1
  have ta := g_tab_at hT hs.1
  have hF := hT.2.2.1
  have hN := hT.2.2.2.1
  have h1 := hs.2.1
  have h2 := hs.2.2
  have h3 := hc.2.1
  exact ⟨⟨by omega, by omega⟩, ⟨by omega, by omega⟩⟩
theorem t70 {d : Nat} {h : qH} (hS : qSe h) {T : pT} {r p a f n : Int} {M : qM} {F : qM → Prop} (hT : g_tab T) (hM : g_cM T r M) (hs : g_at T a f n) (ha : a < T 8 0) (hp : p = g_place T a f n)
    (hb : ∀ q, 0 ≤ M 40 0 q ∧ M 40 0 q < 65536)
    (H : ∀ M', g_R70 T M p a f n (fun _ _ => True) M' → F M') : e70 (d + 2) h p M F := by
  have h70 := hT.1
  have hD := hT.2.1
  have hF := hT.2.2.1
  have pp := g_place_p hT hs
  rw [← hp] at pp
  have ta := g_tab_at hT hs.1
  have hs2 := hs.2.1
  refine w70 hS ⟨pp.1.1, t63 hS hT hM ⟨pp.1.1, by omega⟩ (t64 hS hT hM ⟨pp.1.1, by omega⟩ ⟨pp.1, fun x hx => ⟨pp.1, fun y hy => ⟨⟨by omega, by omega⟩, ?_⟩⟩⟩)⟩
  rw [pp.2.1, pp.2.2.1, pp.2.2.2]
  have bp := hb p
  have hx1 : x ≠ 0 ↔ ∃ z, (1 ≤ z ∧ z ≤ 15) ∧ q_bs (M 40 0 p) z := by
    rw [← q_and2b bp, hx]
    split <;> simp_all
  have hy1 : y ≠ 0 ↔ q_bs (M 40 0 p) 0 := by
    rw [q_bs0 bp.1, hy, q_and1 bp]
    split <;> omega
  have hx2 : x = 0 ∨ x = 1 := by rw [hx]; split <;> omega
  -- no change of what the next steps need
  have keep : ∀ (D : Int → Int → Prop) M', g_R70 T M p a f n D M' → g_cM T r M' := fun D M' hR => g_cM_fr hM (fun k m s q => hR.1 k m s (by omega) (by omega))
  have outer : ∀ (u1 u8 u9 : qV) (M' : qM), g_R70 T M p a f n (fun b _ => b < a + 1) M' → b70_60 d h F u1 a f n x y (a + 1) u8 u9 M' := by
    have hB : a + 1 ≤ T 8 0 := by omega
    refine q_upto (P := fun b => a < b → ∀ (u1 u8 u9 : qV) (M' : qM), g_R70 T M p a f n (fun b' _ => b' < b) M' → b70_60 d h F u1 a f n x y b u8 u9 M') (a := a + 1) (b := T 8 0) hB ?_ ?_ (by omega)
    · intro _ u1 u8 u9 M' hR
      obtain ⟨m3, m4, r0, c1, -⟩ := keep _ M' hR
      have q1 : M' 7 0 3 - 1 = r := by omega
      refine w70_60 hS ⟨fun q => by omega, fun _ => ⟨fun q => by rw [q1, c1] at q; omega, fun _ => H M' ⟨hR.1, hR.2.1, hR.2.2.1, hR.2.2.2.1, fun b m y _ hy hb2 hc hbR => hR.2.2.2.2 b m y hbR hy hb2 hc hbR⟩⟩, fun q => by omega⟩
    · intro b b0 b1 ih hab u1 u8 u9 M' hR
      have hM' := keep _ M' hR
      obtain ⟨m3, m4, r0, c1, -⟩ := id hM'
      have q1 : M' 7 0 3 - 1 = r := by omega
      have tb := g_tab_at hT (a := b) ⟨by omega, by omega⟩
      have dm := hT.2.2.2.2.2.2.1 a b hs.1.1 (by omega) (by omega)
      refine w70_60 hS ⟨fun q => by omega, fun _ => ⟨fun _ => ?_, fun q => by rw [q1, c1] at q; omega⟩, fun q => by omega⟩
      rw [m4]
      refine ⟨⟨by omega, by omega⟩, fun kd => t59 hS hT hM' ⟨by omega, by omega⟩ ⟨hs2.1, by omega⟩ ?_, fun kd => ?_⟩
      · -- the floats, from the most on
        have inner : ∀ (mm : Int), -1 ≤ mm → mm ≤ 2 → f + mm ≤ T 1 b ∨ mm = -1 → ∀ (u1 u9 : qV) (M1 : qM), g_R70 T M p a f n (fun b' m' => b' < b ∨ (b' = b ∧ mm < m')) M1 → b70_92 d h F u1 a f n x y b mm u9 M1 := by
          intro mm hmm
          refine q_dnto (P := fun mm => mm ≤ 2 → f + mm ≤ T 1 b ∨ mm = -1 → ∀ (u1 u9 : qV) (M1 : qM), g_R70 T M p a f n (fun b' m' => b' < b ∨ (b' = b ∧ mm < m')) M1 → b70_92 d h F u1 a f n x y b mm u9 M1) (a := -1) (b := mm) hmm ?_ ?_
          · intro _ _ u1 u9 M1 hR1
            refine w70_92 hS ⟨fun _ => ⟨⟨by omega, by omega⟩, ih (by omega) _ _ _ M1 ⟨hR1.1, hR1.2.1, hR1.2.2.1, hR1.2.2.2.1, fun b' m' y' hd hy' hq hc hbR => hR1.2.2.2.2 b' m' y' ?_ hy' hq hc hbR⟩⟩, fun q => absurd (by decide) q⟩
            have := hc.2.1
            omega
          · intro m m0 m1 ih2 hm2 hfm u1 u9 M1 hR1
            have hM1 := keep _ M1 hR1
            have hfm' : f + m ≤ T 1 b := by omega
            refine w70_92 hS ⟨fun q => by omega, fun _ => t58 hS hT hM1 hs ⟨hab, by omega⟩ ⟨by omega, hfm'⟩ (fun ok M2 O2 x5 x6 x7 x8 x9 => ⟨fun q => absurd q (by decide), fun _ => ?_⟩) (fun nok M2 O2 => ⟨fun _ => ⟨⟨by omega, by omega⟩, ?_⟩, fun q => absurd rfl q⟩)⟩
            · have hc : g_can T a f n b m := ⟨⟨hab, by omega⟩, ⟨by omega, hm2, hfm'⟩, ok⟩
              have nums := g_nums hT hs ⟨hab, by omega⟩ ⟨by omega, hfm'⟩
              have nn := nums.2.2.2.2.2 ok
              have nxt := g_next hT hs ⟨hab, by omega⟩ ⟨by omega, hfm'⟩ ok
              have nxp := g_place_p hT nxt
              have hnx : g_nx T a f n b m = g_place T b (f + m) (n + g_lines T a b f m n) := rfl
              rw [← hnx] at nxp
              have hM2 : g_cM T r M2 := g_cM_fr hM1 (fun k m s q => O2 k m s (by omega))
              rw [x5]
              have qq := g_can_q hT hs hc
              refine ⟨qq.1, qq.2, t62 hS hT hM2 nxt ?_⟩
              rw [← hnx]
              refine ⟨nxp.1, fun z hz => ⟨nxp.1, fun M3 f3 => ⟨nxp.1, ?_⟩⟩⟩
              have e2 : ∀ q, M2 40 0 q = M1 40 0 q := fun q => O2 _ _ _ (by omega)
              have z7 : M3 7 0 7 = g_fill T a b f m n := by rw [f3, qU_k (by decide)]; exact x7
              have hz01 : 0 ≤ z ∧ z < 65536 := by rw [hz]; split <;> omega
              have b1' := hR1.2.1 (g_nx T a f n b m)
              have bor := fun xx => q_bs_or (v := M1 40 0 (g_nx T a f n b m)) (w := z) (x := xx) b1' hz01
              have v3 : M3 40 0 (g_nx T a f n b m) = qOr (M1 40 0 (g_nx T a f n b m)) z := by rw [f3, qU_s, e2]
              rw [z7]
              have pw := fun xx (hxx : 0 ≤ xx) => q_bs_p (k := g_fill T a b f m n) (x := xx) ⟨by omega, by omega⟩ hxx
              refine ⟨fun _ => ⟨by decide, by omega, by omega, by have := (pw 0 (Int.le_refl _)).1.1; omega⟩, fun w hw => ⟨nxp.1, fun M4 f4 => ⟨⟨by omega, by omega⟩, ?_⟩⟩⟩
              have hw01 : 0 ≤ w ∧ w < 65536 := by
                rw [hw]
                split
                · omega
                · exact (pw 0 (Int.le_refl _)).1.1
              have bor2 := fun xx => q_bs_or (v := qOr (M1 40 0 (g_nx T a f n b m)) z) (w := w) (x := xx) (bor xx).1 hw01
              have v4 : M4 40 0 (g_nx T a f n b m) = qOr (qOr (M1 40 0 (g_nx T a f n b m)) z) w := by rw [f4, qU_s, v3]
              have o4 : ∀ q, q ≠ g_nx T a f n b m → M4 40 0 q = M1 40 0 q := fun q hq => by rw [f4, qU_l hq, f3, qU_l hq, e2]
              -- the bits of the next place
              have bits : ∀ xx, 0 ≤ xx → (q_bs (M4 40 0 (g_nx T a f n b m)) xx ↔ q_bs (M1 40 0 (g_nx T a f n b m)) xx ∨ (x ≠ 0 ∧ xx = 0) ∨ (y ≠ 0 ∧ xx = g_fill T a b f m n)) := by
                intro xx hxx
                rw [v4, (bor2 xx).2, (bor xx).2, hz, hw]
                have p0 := q_bs_p (k := 0) (x := xx) ⟨by omega, by omega⟩ hxx
                have p1 := pw xx hxx
                by_cases k1 : x = 0 <;> by_cases k2 : y = 0
                · rw [if_pos k1, if_pos k2]
                  constructor
                  · rintro ((q | q) | q)
                    · exact Or.inl q
                    · exact absurd q q_bs_z
                    · exact absurd q q_bs_z
                  · rintro (q | q | q)
                    · exact Or.inl (Or.inl q)
                    · exact absurd k1 q.1
                    · exact absurd k2 q.1
                · rw [if_pos k1, if_neg k2]
                  constructor
                  · rintro ((q | q) | q)
                    · exact Or.inl q
                    · exact absurd q q_bs_z
                    · exact Or.inr (Or.inr ⟨k2, p1.2.mp q⟩)
                  · rintro (q | q | q)
                    · exact Or.inl (Or.inl q)
                    · exact absurd k1 q.1
                    · exact Or.inr (p1.2.mpr q.2)
                · rw [if_neg k1, if_pos k2]
                  have p0' : q_bs 1 xx ↔ xx = 0 := p0.2
                  constructor
                  · rintro ((q | q) | q)
                    · exact Or.inl q
                    · exact Or.inr (Or.inl ⟨k1, p0'.mp q⟩)
                    · exact absurd q q_bs_z
                  · rintro (q | q | q)
                    · exact Or.inl (Or.inl q)
                    · exact Or.inl (Or.inr (p0'.mpr q.2))
                    · exact absurd k2 q.1
                · rw [if_neg k1, if_neg k2]
                  have p0' : q_bs 1 xx ↔ xx = 0 := p0.2
                  constructor
                  · rintro ((q | q) | q)
                    · exact Or.inl q
                    · exact Or.inr (Or.inl ⟨k1, p0'.mp q⟩)
                    · exact Or.inr (Or.inr ⟨k2, p1.2.mp q⟩)
                  · rintro (q | q | q)
                    · exact Or.inl (Or.inl q)
                    · exact Or.inl (Or.inr (p0'.mpr q.2))
                    · exact Or.inr (p1.2.mpr q.2)
              rw [show m + -1 = m - 1 by omega]
              refine ih2 (by omega) (by omega) _ _ M4 ⟨fun k mm' s q1 q2 => ?_, fun q => ?_, fun q xx hq => ?_, fun q xx hxx hq => ?_, fun b' m' y' hd hy' hq hc' hbR => ?_⟩
              · rw [← hR1.1 k mm' s q1 q2, ← O2 k mm' s (by omega), f4, f3]
                have g20 : 20 * (a + 1) ≤ g_nx T a f n b m := by omega
                unfold qU
                rw [if_neg (by omega), if_neg (by omega)]
              · by_cases k : q = g_nx T a f n b m
                · rw [k, v4]; exact (bor2 0).1
                · rw [o4 q k]; exact hR1.2.1 q
              · have hq1 := hR1.2.2.1 q xx hq
                by_cases k : q = g_nx T a f n b m
                · rw [k] at hq1 ⊢
                  rw [v4, (bor2 xx).2, (bor xx).2]
                  exact Or.inl (Or.inl hq1)
                · rw [o4 q k]; exact hq1
              · by_cases k : q = g_nx T a f n b m
                · rw [k] at hq ⊢
                  rcases (bits xx hxx).mp hq with q1 | ⟨q1, q2⟩ | ⟨q1, q2⟩
                  · exact hR1.2.2.2.1 _ xx hxx q1
                  · obtain ⟨z', hz1, hz2⟩ := hx1.mp q1
                    refine Or.inr ⟨b, m, z', ⟨by omega, hz1.2⟩, hz2, hc, b1, rfl, ?_⟩
                    unfold g_ahead
                    rw [if_neg (by omega)]; exact q2
                  · refine Or.inr ⟨b, m, 0, ⟨by omega, by omega⟩, hy1.mp q1, hc, b1, rfl, ?_⟩
                    unfold g_ahead
                    rw [if_pos rfl]; exact q2
                · rw [o4 q k] at hq
                  exact hR1.2.2.2.1 q xx hxx hq
              · by_cases k : b' = b ∧ m' = m
                · obtain ⟨rfl, rfl⟩ := k
                  have h0 : 0 ≤ g_ahead T a b' f m' n y' := by unfold g_ahead; split <;> omega
                  rw [bits _ h0]
                  by_cases ky : y' = 0
                  · right; right
                    subst ky
                    exact ⟨hy1.mpr hq, by unfold g_ahead; rw [if_pos rfl]⟩
                  · right; left
                    exact ⟨hx1.mpr ⟨y', ⟨by omega, hy'.2⟩, hq⟩, by unfold g_ahead; rw [if_neg ky]⟩
                · have h1 := hR1.2.2.2.2 b' m' y' (by omega) hy' hq hc' hbR
                  by_cases k2 : g_nx T a f n b' m' = g_nx T a f n b m
                  · rw [k2] at h1 ⊢
                    rw [v4, (bor2 _).2, (bor _).2]
                    exact Or.inl (Or.inl h1)
                  · rw [o4 _ k2]; exact h1
            · rw [show m + -1 = m - 1 by omega]
              have e2 : ∀ q, M2 40 0 q = M1 40 0 q := fun q => O2 _ _ _ (by omega)
              refine ih2 (by omega) (by omega) _ _ M2 ⟨fun k mm' s q1 q2 => by rw [O2 k mm' s (by omega)]; exact hR1.1 k mm' s q1 q2, fun q => by rw [e2]; exact hR1.2.1 q, fun q xx hq => by rw [e2]; exact hR1.2.2.1 q xx hq, fun q xx hxx hq => by rw [e2] at hq; exact hR1.2.2.2.1 q xx hxx hq, fun b' m' y' hd hy' hq hc' hbR => ?_⟩
              rw [e2]
              refine hR1.2.2.2.2 b' m' y' ?_ hy' hq hc' hbR
              by_cases k : b' = b ∧ m' = m
              · obtain ⟨rfl, rfl⟩ := k; exact absurd hc'.2.2 nok
              · omega
        have hmf : (0 : Int) ≤ T 1 b - f := by omega
        refine inner _ (by split <;> omega) (by split <;> omega) (by split <;> omega) _ _ M' ⟨hR.1, hR.2.1, hR.2.2.1, hR.2.2.2.1, fun b' m' y' hd hy' hq hc' hbR => hR.2.2.2.2 b' m' y' ?_ hy' hq hc' hbR⟩
        rcases hd with hd | ⟨rfl, hd⟩
        · exact hd
        · exfalso
          have := hc'.2.1
          split at hd <;> omega
      · refine H M' ⟨hR.1, hR.2.1, hR.2.2.1, hR.2.2.2.1, fun b' m' y' _ hy' hq hc' hbR => hR.2.2.2.2 b' m' y' ?_ hy' hq hc' hbR⟩
        have := g_can_D hT hs hc'
        omega
  refine outer _ _ _ M ⟨fun _ _ _ _ _ => rfl, hb, fun _ _ hq => hq, fun _ _ _ hq => Or.inl hq, fun b m y' hd _ _ hc _ => ?_⟩
  have := hc.1
  omega
