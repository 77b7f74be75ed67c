/-! ===== the law's loop ===== -/
theorem l_body {sc : Int × (Int → Int)} {Q : qRQ} {h : qH} (hS : qSe h) {n i x : Int} {u5 u6 : qV} {M : qM} (hi : 0 ≤ i ∧ i + 3 < sc.1 ∧ sc.1 ≤ 2048) (hn : n < 512) (hR : c_Rel n M) (K : ∀ (σ' : qS) (u5 u6 : qV), l_st (n + 1) h σ' → qG 20 sc qc_L_law Q 2530 (l_ls i u5 u6) [] σ') : qG 20 sc qc_L_law Q 39 (l_ls i u5 u6) [.inl x] (h, M) := by
  have up : c_Rel (n + 1) M := by obtain ⟨B, hr⟩ := hR; exact ⟨B, c_rl_up hn hr⟩
  refine qWp_ok (cut := fun _ => true) (K := qG 20 sc qc_L_law Q) (N := 1) (fun _ _ _ _ h => h) (And.intro (fun _ => K _ _ _ (Or.inl ⟨_, rfl, up⟩)) (fun hx => ?_))
  rcases (show x = 0 ∨ x = 1 ∨ x = 2 ∨ x = 3 ∨ x = 4 ∨ x = 5 ∨ x = 6 ∨ x = 7 ∨ x = 8 ∨ x = 9 ∨ x = 10 ∨ x = 11 ∨ x = 12 ∨ x = 13 ∨ x = 14 ∨ x = 15 ∨ x = 16 ∨ x = 17 ∨ x = 18 ∨ x = 19 ∨ x = 20 ∨ x = 21 ∨ x = 22 ∨ x = 23 ∨ x = 24 ∨ x = 25 ∨ x = 26 ∨ x = 27 ∨ x = 28 ∨ x = 29 ∨ x = 30 ∨ x = 31 ∨ x = 32 ∨ x = 33 ∨ x = 34 ∨ x = 35 ∨ x = 36 ∨ x = 37 by omega) with rfl | rfl | rfl | rfl | rfl | rfl | rfl | rfl | rfl | rfl | rfl | rfl | rfl | rfl | rfl | rfl | rfl | rfl | rfl | rfl | rfl | rfl | rfl | rfl | rfl | rfl | rfl | rfl | rfl | rfl | rfl | rfl | rfl | rfl | rfl | rfl | rfl | rfl
  · exact lc0 hS hi hn hR K
  · exact lc1 hS hi hn hR K
  · exact lc2 hS hi hn hR K
  · exact lc3 hS hi hn hR K
  · exact lc4 hS hi hn hR K
  · exact lc5 hS hi hn hR K
  · exact lc6 hS hi hn hR K
  · exact lc7 hS hi hn hR K
  · exact lc8 hS hi hn hR K
  · exact lc9 hS hi hn hR K
  · exact lc10 hS hi hn hR K
  · exact lc11 hS hi hn hR K
  · exact lc12 hS hi hn hR K
  · exact lc13 hS hi hn hR K
  · exact lc14 hS hi hn hR K
  · exact lc15 hS hi hn hR K
  · exact lc16 hS hi hn hR K
  · exact lc17 hS hi hn hR K
  · exact lc18 hS hi hn hR K
  · exact lc19 hS hi hn hR K
  · exact lc20 hS hi hn hR K
  · exact lc21 hS hi hn hR K
  · exact lc22 hS hi hn hR K
  · exact lc23 hS hi hn hR K
  · exact lc24 hS hi hn hR K
  · exact lc25 hS hi hn hR K
  · exact lc26 hS hi hn hR K
  · exact lc27 hS hi hn hR K
  · exact lc28 hS hi hn hR K
  · exact lc29 hS hi hn hR K
  · exact lc30 hS hi hn hR K
  · exact lc31 hS hi hn hR K
  · exact lc32 hS hi hn hR K
  · exact lc33 hS hi hn hR K
  · exact lc34 hS hi hn hR K
  · exact lc35 hS hi hn hR K
  · exact lc36 hS hi hn hR K
  · exact lc37 hS hi hn hR K
theorem l_loop {L : Nat} (hL : L ≤ 2048) {f : Int → Int} {Q : qRQ} (c0 s0 : Nat) (HQ : ∀ (h : qH) (M : qM), h.2.2.1 ≤ c0 + 512 → h.2.2.2.1 ≤ s0 + 3072 → Q (.inl (some (.inl 1))) (h, M)) : ∀ (t : Nat) (n : Int) (h : qH) (M : qM) (u5 u6 : qV), 0 ≤ n → n ≤ 512 → (L : Int) - 4 * n ≤ t → qSe h → (h.2.2.1 : Int) ≤ c0 + n → (h.2.2.2.1 : Int) ≤ s0 + 6 * n → c_Rel n M → qG 20 ((L : Int), f) qc_L_law Q 23 (l_ls (4 * n) u5 u6) [] (h, M) := by
  have stop : ∀ (n : Int) (h : qH) (M : qM) (u5 u6 : qV), 0 ≤ n → n ≤ 512 → ¬ 4 * n ≤ (L : Int) - 4 → (h.2.2.1 : Int) ≤ c0 + n → (h.2.2.2.1 : Int) ≤ s0 + 6 * n → qG 20 ((L : Int), f) qc_L_law Q 23 (l_ls (4 * n) u5 u6) [] (h, M) := fun n h M u5 u6 n0 n1 no hc hs => by
    have q4 : qIn ((L : Int) - 4) := ⟨by omega, by omega⟩
    have l0 : (0 : Int) ≤ (L : Int) := by omega
    exact qWp_ok (cut := fun _ => false) (K := qG 20 ((L : Int), f) qc_L_law Q) (N := 20) (fun _ _ _ _ h => h) (And.intro l0 (And.intro q4 (And.intro (fun z => absurd z no) (fun _ => And.intro ⟨rfl, Or.inr rfl⟩ (HQ h M (by omega) (by omega))))))
  intro t
  induction t with
  | zero => exact fun n h M u5 u6 n0 n1 hl hS hc hs hR => stop n h M u5 u6 n0 n1 (by omega) hc hs
  | succ t ih =>
    intro n h M u5 u6 n0 n1 hl hS hc hs hR
    by_cases go : 4 * n ≤ (L : Int) - 4
    · have q4 : qIn ((L : Int) - 4) := ⟨by omega, by omega⟩
      have l0 : (0 : Int) ≤ (L : Int) := by omega
      have i0 : 0 ≤ 4 * n ∧ 4 * n < (L : Int) := ⟨by omega, by omega⟩
      refine qWp_ok (cut := fun pc => Nat.beq pc 39) (K := qG 20 ((L : Int), f) qc_L_law Q) (N := 20) (fun _ _ _ _ h => h) (And.intro l0 (And.intro q4 (And.intro (fun _ => And.intro i0 (l_body (sc := ((L : Int), f)) hS ⟨i0.1, by show 4 * n + 3 < (L : Int); omega, by show (L : Int) ≤ 2048; omega⟩ (by omega) hR (fun σ' u5 u6 hst => ?_))) (fun z => absurd go z))))
      have qi : qIn (4 * n + 4) := ⟨by omega, by omega⟩
      refine qWp_ok (cut := fun pc => Nat.beq pc 23) (K := qG 20 ((L : Int), f) qc_L_law Q) (N := 10) (fun _ _ _ _ h => h) (And.intro qi ?_)
      show qG 20 ((L : Int), f) qc_L_law Q 23 (l_ls (4 * n + 4) u5 u6) [] σ'
      rw [show 4 * n + 4 = 4 * (n + 1) by omega]
      rcases hst with ⟨M', rfl, hR'⟩ | ⟨M', rfl, hR'⟩
      · exact ih (n + 1) h M' u5 u6 (by omega) (by omega) (by omega) hS (by omega) (by omega) hR'
      · refine ih (n + 1) _ M' u5 u6 (by omega) (by omega) (by omega) hS ?_ ?_ hR'
        · show ((h.2.2.1 + 1 : Nat) : Int) ≤ _
          omega
        · show ((h.2.2.2.1 + 6 : Nat) : Int) ≤ _
          omega
    · exact stop n h M u5 u6 n0 n1 go hc hs
