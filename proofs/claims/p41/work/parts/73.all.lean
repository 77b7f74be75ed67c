/-! ===== PageMaker.leastFrom, leastByAll ===== -/
def fr78 (M M' : qM) : Prop := ∀ (k : Nat) (m s : Int), ¬ (k = 7 ∧ m = 0 ∧ 5 ≤ s ∧ s ≤ 12) → M' k m s = M k m s
theorem g_V_bd {T : pT} (hT : g_tab T) {I : Int} (hI : 0 ≤ I ∧ I ≤ 600000000) {a f n x : Int} (hs : g_at T a f n) (hx : 0 ≤ x ∧ x ≤ 15) : 0 ≤ g_V T I a f n x ∧ g_V T I a f n x ≤ 600000000 := by
  refine ⟨g_V_0 hT hI.1 (T 8 0 - a).toNat a f n x (by omega) hs hx, ?_⟩
  have tR := g_tab_at hT hs.1
  by_cases ha : T 8 0 ≤ a
  · rw [g_V_end ha]
    have := (g_bN_s hT (f := f) (n := n) ⟨hs.2.1.1, by have := hs.2.1; omega⟩ ⟨by have := hs.2.2; omega, by have := hs.2.2; omega⟩).1
    omega
  · have := (g_V_p (T := T) (I := I) (a := a) (f := f) (n := n) (x := x) (by omega)).1
    omega
theorem t78 (T : pT) (r : Int) (hT : g_tab T) (h : qH) (hS : qSe h) (h8 : T 8 0 ≤ 8) : ∀ (t : Nat) (d : Nat) (a f n x : Int) (M : qM) (F : Int → qM → Prop), T 8 0 - a ≤ t → g_cM T r M → g_at T a f n → (0 ≤ x ∧ x ≤ 15) → (∀ M', fr78 M M' → F (g_V T g_I a f n x) M') → e78 (d + t + 3) h a f n x M F := by
  have hF := hT.2.2.1
  have hN := hT.2.2.2.1
  intro t
  induction t with
  | zero =>
    intro d a f n x M F ht hM hs hx H
    obtain ⟨m3, m4, r0, c1, -⟩ := id hM
    have q1 : M 7 0 3 - 1 = r := by omega
    have tR := g_tab_at hT hs.1
    refine w78 hS ⟨fun q => by omega, fun _ => ⟨fun q => by rw [q1, c1] at q; omega, fun _ => ?_⟩, fun q => by omega⟩
    have bn := (g_bN_s hT (f := f) (n := n) ⟨hs.2.1.1, by have := hs.2.1; omega⟩ ⟨by have := hs.2.2; omega, by have := hs.2.2; omega⟩).1
    refine t66 hS hT hM ⟨hs.2.1.1, by have := hs.2.1; omega⟩ ⟨by have := hs.2.2; omega, by have := hs.2.2; omega⟩ (fun M1 O1 => ⟨⟨by omega, by omega⟩, ?_⟩)
    rw [← g_V_end (T := T) (I := g_I) (x := x) (show T 8 0 ≤ a by omega)]
    exact H M1 (fun k m s q => O1 k m s (by omega))
  | succ t IH =>
    intro d a f n x M F ht hM hs hx H
    obtain ⟨m3, m4, r0, c1, -⟩ := id hM
    have q1 : M 7 0 3 - 1 = r := by omega
    have tR := g_tab_at hT hs.1
    by_cases ha : T 8 0 ≤ a
    · refine w78 (d := d + t + 1) hS ⟨fun q => by omega, fun _ => ⟨fun q => by rw [q1, c1] at q; omega, fun _ => ?_⟩, fun q => by omega⟩
      have bn := (g_bN_s hT (f := f) (n := n) ⟨hs.2.1.1, by have := hs.2.1; omega⟩ ⟨by have := hs.2.2; omega, by have := hs.2.2; omega⟩).1
      refine t66 hS hT hM ⟨hs.2.1.1, by have := hs.2.1; omega⟩ ⟨by have := hs.2.2; omega, by have := hs.2.2; omega⟩ (fun M1 O1 => ⟨⟨by omega, by omega⟩, ?_⟩)
      rw [← g_V_end (T := T) (I := g_I) (x := x) ha]
      exact H M1 (fun k m s q => O1 k m s (by omega))
    · have hs2 := hs.2.1
      -- the least of what is done
      let Inv : (Int → Int → Prop) → Int → Prop := fun done l => (0 ≤ l ∧ l ≤ g_I) ∧ (∀ b m, done b m → g_can T a f n b m → l ≤ g_val T g_I a f n x b m) ∧ (l = g_I ∨ ∃ b m, g_can T a f n b m ∧ l = g_val T g_I a f n x b m)
      have outer : ∀ (l : Int) (u7 u8 : qV) (M1 : qM), fr78 M M1 → Inv (fun b _ => b < a + 1) l → b78_38 (d + t + 1) h F a f n x l (a + 1) u7 u8 M1 := by
        refine q_upto (P := fun b => a < b → ∀ (l : Int) (u7 u8 : qV) (M1 : qM), fr78 M M1 → Inv (fun b' _ => b' < b) l → b78_38 (d + t + 1) h F a f n x l b u7 u8 M1) (a := a + 1) (b := T 8 0 + 1) (by omega) ?_ ?_ (by omega)
        · intro _ l u7 u8 M1 O1 hI
          have hM1 := g_cM_fr hM (M' := M1) (fun k m s q => O1 k m s (by omega))
          obtain ⟨m3, m4, r0, c1, -⟩ := id hM1
          have q1 : M1 7 0 3 - 1 = r := by omega
          refine w78_38 hS ⟨fun q => by omega, fun _ => ⟨fun q => by rw [q1, c1] at q; omega, fun _ => ?_⟩, fun q => by omega⟩
          obtain ⟨v1, v2, v3⟩ := g_V_p (T := T) (I := g_I) (a := a) (f := f) (n := n) (x := x) (by omega)
          have e : l = g_V T g_I a f n x := by
            refine Int.le_antisymm ?_ ?_
            · rcases v3 with v3 | ⟨b, m, hc, v3⟩
              · rw [v3]; exact hI.1.2
              · rw [v3]; exact hI.2.1 b m (by have := hc.1; omega) hc
            · rcases hI.2.2 with g3 | ⟨b, m, hc, g3⟩
              · rw [g3]; exact v1
              · rw [g3]; exact v2 b m hc
          rw [e]
          exact H M1 O1
        · intro b b0 b1 ih hab l u7 u8 M1 O1 hI
          have hM1 := g_cM_fr hM (M' := M1) (fun k m s q => O1 k m s (by omega))
          obtain ⟨m3, m4, r0, c1, -⟩ := id hM1
          have q1 : M1 7 0 3 - 1 = r := by omega
          have tb := g_tab_at hT (a := b) ⟨by have := hs.1; omega, by omega⟩
          have dm := hT.2.2.2.2.2.2.1 a b hs.1.1 (by omega) (by omega)
          refine w78_38 hS ⟨fun q => by omega, fun _ => ⟨fun _ => t59 hS hT hM1 ⟨by have := hs.1; omega, by omega⟩ ⟨hs2.1, by omega⟩ ?_, fun q => by rw [q1, c1] at q; omega⟩, fun q => by omega⟩
          have inner : ∀ (mm : Int), -1 ≤ mm → mm ≤ 2 → f + mm ≤ T 1 b ∨ mm = -1 → ∀ (l : Int) (u8 : qV) (M2 : qM), fr78 M M2 → Inv (fun b' m' => b' < b ∨ (b' = b ∧ mm < m')) l → b78_59 (d + t + 1) h F a f n x l b mm u8 M2 := by
            intro mm hmm
            refine q_dnto (P := fun mm => mm ≤ 2 → f + mm ≤ T 1 b ∨ mm = -1 → ∀ (l : Int) (u8 : qV) (M2 : qM), fr78 M M2 → Inv (fun b' m' => b' < b ∨ (b' = b ∧ mm < m')) l → b78_59 (d + t + 1) h F a f n x l b mm u8 M2) (a := -1) (b := mm) hmm ?_ ?_
            · intro _ _ l u8 M2 O2 hI2
              refine w78_59 hS ⟨fun _ => ⟨⟨by omega, by omega⟩, ih (by omega) _ _ _ M2 O2 ⟨hI2.1, fun b' m' hd hc => hI2.2.1 b' m' ?_ hc, hI2.2.2⟩⟩, fun q => absurd (by decide) q⟩
              have := hc.2.1; omega
            · intro m m0 m1 ih2 hm2 hfm l u8 M2 O2 hI2
              have hM2 := g_cM_fr hM (M' := M2) (fun k m s q => O2 k m s (by omega))
              have hfm' : f + m ≤ T 1 b := by omega
              refine w78_59 hS ⟨fun q => by omega, fun _ => t58 hS hT hM2 hs ⟨hab, by omega⟩ ⟨by omega, hfm'⟩ (fun ok M3 O3 x5 x6 x7 x8 x9 => ⟨fun q => absurd q (by decide), fun _ => ?_⟩) (fun nok M3 O3 => ⟨fun _ => ⟨⟨by omega, by omega⟩, ?_⟩, fun q => absurd rfl q⟩)⟩
              · have hc : g_can T a f n b m := ⟨⟨hab, by omega⟩, ⟨by omega, hm2, hfm'⟩, ok⟩
                have nums := g_nums hT hs hc.1 ⟨hc.2.1.1, hc.2.1.2.2⟩
                have nn := nums.2.2.2.2.2 ok
                have nxt := g_next hT hs hc.1 ⟨hc.2.1.1, hc.2.1.2.2⟩ ok
                have qq := g_can_q hT hs hc
                have fb := g_far_bd (T := T) (a := a) (b := b) (f := f) (m := m) (n := n) nn.2.2.2.1 hx
                have hM3 := g_cM_fr hM2 (M' := M3) (fun k m s q => O3 k m s (by omega))
                have hah : 0 ≤ g_ahead T a b f m n x ∧ g_ahead T a b f m n x ≤ 15 := by unfold g_ahead; split <;> omega
                have eah : (if x = 0 then M3 7 0 7 else 0) = g_ahead T a b f m n x := by rw [x7]; rfl
                have vb := g_V_bd hT (I := g_I) ⟨by decide, by decide⟩ nxt hah
                refine t60 hS (T := T) (a := a) (b := b) (f := f) (m := m) (n := n) x7 x9 nn.2.2.2.1 hx ?_
                rw [x8, x5]
                refine ⟨⟨by omega, by omega⟩, qq.1, qq.2, t61 hS ?_⟩
                rw [eah]
                have call := IH d b (f + m) (n + g_lines T a b f m n) (g_ahead T a b f m n x) M3 (fun v126 M127 => qIn (g_cost T a b f m n + g_far T a b f m n x + v126) ∧ ∀ (x131 : Int), (x131 = if g_cost T a b f m n + g_far T a b f m n x + v126 < l then g_cost T a b f m n + g_far T a b f m n x + v126 else l) → qIn (m + -1) ∧ b78_59 (d + t + 1) h F a f n x x131 b (m + -1) (.inl (g_cost T a b f m n + g_far T a b f m n x + v126)) M127) (by omega) hM3 nxt hah (fun M4 O4 => ⟨⟨by omega, by omega⟩, fun l2 hl2 => ⟨⟨by omega, by omega⟩, ?_⟩⟩)
                · exact call
                · rw [show m + -1 = m - 1 by omega]
                  have eval : g_cost T a b f m n + g_far T a b f m n x + g_V T g_I b (f + m) (n + g_lines T a b f m n) (g_ahead T a b f m n x) = g_val T g_I a f n x b m := rfl
                  rw [eval] at hl2
                  have i1 := hI2.1
                  have vnn : 0 ≤ g_val T g_I a f n x b m := by unfold g_val; omega
                  refine ih2 (by omega) (by omega) _ _ M4 (fun k m' s q => by rw [O4 k m' s q, O3 k m' s (by omega)]; exact O2 k m' s q) ⟨?_, fun b' m' hd hc' => ?_, ?_⟩
                  · rw [hl2]; split <;> omega
                  · by_cases e : b' = b ∧ m' = m
                    · obtain ⟨rfl, rfl⟩ := e; rw [hl2]; split <;> omega
                    · have := hI2.2.1 b' m' (by omega) hc'
                      rw [hl2]; split <;> omega
                  · rw [hl2]
                    split
                    · exact Or.inr ⟨b, m, hc, rfl⟩
                    · exact hI2.2.2
              · rw [show m + -1 = m - 1 by omega]
                refine ih2 (by omega) (by omega) _ _ M3 (fun k m' s q => by rw [O3 k m' s (by omega)]; exact O2 k m' s q) ⟨hI2.1, fun b' m' hd hc' => ?_, hI2.2.2⟩
                by_cases e : b' = b ∧ m' = m
                · obtain ⟨rfl, rfl⟩ := e; exact absurd hc'.2.2 nok
                · exact hI2.2.1 b' m' (by omega) hc'
          refine inner _ (by split <;> omega) (by split <;> omega) (by split <;> omega) _ _ M1 O1 ⟨hI.1, fun b' m' hd hc => hI.2.1 b' m' ?_ hc, hI.2.2⟩
          rcases hd with hd | ⟨rfl, hd⟩
          · exact hd
          · exfalso
            have := hc.2.1
            split at hd <;> omega
      refine w78 (d := d + t + 1) hS ⟨fun q => by omega, fun _ => ⟨fun _ => ⟨fun _ => ⟨⟨by have := hs.1; omega, by omega⟩, ?_⟩, fun q => by omega⟩, fun q => by rw [q1, c1] at q; omega⟩, fun q => by omega⟩
      exact outer _ _ _ M (fun _ _ _ _ => rfl) ⟨⟨by decide, Int.le_refl _⟩, fun b m hd hc => by have := hc.1; omega, Or.inl rfl⟩
theorem t57 {d : Nat} {h : qH} (hS : qSe h) {n x : Int} {M : qM} {F : qM → Prop} (hn : n < 1000000) (H : ∀ M', (∀ (k : Nat) (m s : Int), ¬ (k = 7 ∧ m = 0 ∧ (s = 3 ∨ s = 4)) → M' k m s = M k m s) → M' 7 0 3 = n + 1 → M' 7 0 4 = x → F M') : e57 (d + 1) h n x M F :=
  w57 hS ⟨hn, fun M1 f1 M2 f2 => H M2 (fun k m s q => by rw [f2, f1]; unfold qU; rw [if_neg (by omega), if_neg (by omega)]) (by rw [f2, qU_l (by decide), f1, qU_s]) (by rw [f2, qU_s])⟩
def fr77 (M M' : qM) : Prop := ∀ (k : Nat) (m s : Int), ¬ (k = 7 ∧ m = 0 ∧ 3 ≤ s ∧ s ≤ 12) → M' k m s = M k m s
theorem g_at_0 {T : pT} (hT : g_tab T) : g_at T 0 0 0 := by
  have z := hT.2.2.2.2.1
  have := hT.1
  exact ⟨by omega, by omega, by omega⟩
theorem t77 {d : Nat} {h : qH} (hS : qSe h) {T : pT} {n : Int} {M : qM} {F : Int → qM → Prop} (hT : g_tab T) (hn : 0 ≤ n ∧ n < 1000000) (hcT : g_cT T n M) (h8 : T 8 0 ≤ 8)
    (H : ∀ M', fr77 M M' → F (if T 8 0 = 0 then 0 else g_V T g_I 0 0 0 15) M') : e77 (d + 12) h n (T 8 1) M F := by
  refine w77 (d := d + 8) hS (t57 hS hn.2 (fun M1 O1 y3 y4 => ?_))
  have hM1 : g_cM T n M1 := by
    obtain ⟨c1, c2, c3, c4, c5, c6, c7⟩ := hcT
    refine ⟨y3, y4, hn.1, by rw [O1 _ _ _ (by omega)]; exact c1, by rw [O1 _ _ _ (by omega)]; exact c2, by rw [O1 _ _ _ (by omega)]; exact c3, fun r a b => ?_, fun r a b => by rw [O1 _ _ _ (by omega)]; exact c5 r a b, fun r a b => ?_, fun e a b => by rw [O1 _ _ _ (by omega)]; exact c7 e a b⟩
    · rw [O1 _ _ _ (by omega), O1 _ _ _ (by omega), O1 _ _ _ (by omega), O1 _ _ _ (by omega)]; exact c4 r a b
    · rw [O1 _ _ _ (by omega), O1 _ _ _ (by omega)]; exact c6 r a b
  rw [hM1.2.2.2.1]
  refine ⟨fun k => ?_, fun k => ?_⟩
  · have := H M1 (fun k m s q => O1 k m s (by omega))
    rw [if_pos k] at this
    exact this
  · exact t78 T n hT h hS h8 8 d 0 0 0 15 M1 _ (by omega) hM1 (g_at_0 hT) ⟨by decide, by decide⟩ (fun M2 O2 => by
      have := H M2 (fun k m s q => by rw [O2 k m s (by omega), O1 k m s (by omega)])
      rw [if_neg k] at this
      exact this)
