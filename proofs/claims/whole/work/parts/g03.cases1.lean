/-! ===== the law's cases 10 to 19, by wip/gen/genlaw.py ===== -/
theorem lc10 {sc : Int × (Int → Int)} {Q : qRQ} {h : qH} (hS : qSe h) {n i : Int} {u5 u6 : qV} {M : qM} (hi : 0 ≤ i ∧ i + 3 < sc.1 ∧ sc.1 ≤ 2048) (hn : n < 512) (hR : c_Rel n M) (K : ∀ (σ' : qS) (u5 u6 : qV), l_st (n + 1) h σ' → qG 20 sc qc_L_law Q 2530 (l_ls i u5 u6) [] σ') : qG 20 sc qc_L_law Q 806 (l_ls i u5 u6) [] (h, M) := by
  obtain ⟨B, hr⟩ := hR
  have q1 : qIn (i + 1) := ⟨by omega, by omega⟩
  have q2 : qIn (i + 2) := ⟨by omega, by omega⟩
  have q3 : qIn (i + 3) := ⟨by omega, by omega⟩
  have b1 : 0 ≤ i + 1 ∧ i + 1 < sc.1 := ⟨by omega, by omega⟩
  have b2 : 0 ≤ i + 2 ∧ i + 2 < sc.1 := ⟨by omega, by omega⟩
  have b3 : 0 ≤ i + 3 ∧ i + 3 < sc.1 := ⟨by omega, by omega⟩
  exact qWp_ok (cut := fun pc => Nat.beq pc 2530) (K := qG 20 sc qc_L_law Q) (N := 80) (fun _ _ _ _ h => h) (And.intro rfl (qJ.imp (l277 (D := 19) (y105 (d := 17) (d' := 14) hS hn hr)) (fun r σ1 hr1 => by
    rcases hr1 with ⟨v, M1, rfl, rfl, hm⟩ | ⟨k, M1, hk, rfl, rfl, hm⟩
    · exact (And.intro rfl (qJ.imp hm (fun r σ2 hr2 => by
      obtain ⟨b, N, rfl, rfl, h0, hb, h138, hR⟩ := hr2
      exact (And.intro rfl (qJ.imp s_Mthrown (fun r σ3 hr3 => by
      obtain ⟨rfl, rfl⟩ := hr3
      exact (And.intro (fun _ => (And.intro (fun _ => (And.intro ⟨by decide, by decide⟩ (And.intro (fun _ => (K _ _ _ (Or.inl ⟨_, rfl, hR⟩))) (fun z => absurd (l_cmp (h138.trans hb.symm)) z)))) (fun z => absurd rfl z))) (fun z => absurd h0 z))))))))
    · exact (And.intro rfl (qJ.imp (qJ.bump 1 6 hm) (fun r σ2 hr2 => by
      obtain ⟨_, rfl, b, N, rfl, rfl, h0, hR⟩ := hr2
      exact (And.intro rfl (qJ.imp s_Mthrown (fun r σ3 hr3 => by
      obtain ⟨rfl, rfl⟩ := hr3
      exact (And.intro (fun _ => (And.intro (fun z => absurd z hk) (fun _ => (K _ _ _ (Or.inr ⟨_, rfl, hR⟩))))) (fun z => absurd h0 z)))))))))))
theorem lc11 {sc : Int × (Int → Int)} {Q : qRQ} {h : qH} (hS : qSe h) {n i : Int} {u5 u6 : qV} {M : qM} (hi : 0 ≤ i ∧ i + 3 < sc.1 ∧ sc.1 ≤ 2048) (hn : n < 512) (hR : c_Rel n M) (K : ∀ (σ' : qS) (u5 u6 : qV), l_st (n + 1) h σ' → qG 20 sc qc_L_law Q 2530 (l_ls i u5 u6) [] σ') : qG 20 sc qc_L_law Q 850 (l_ls i u5 u6) [] (h, M) := by
  obtain ⟨B, hr⟩ := hR
  have q1 : qIn (i + 1) := ⟨by omega, by omega⟩
  have q2 : qIn (i + 2) := ⟨by omega, by omega⟩
  have q3 : qIn (i + 3) := ⟨by omega, by omega⟩
  have b1 : 0 ≤ i + 1 ∧ i + 1 < sc.1 := ⟨by omega, by omega⟩
  have b2 : 0 ≤ i + 2 ∧ i + 2 < sc.1 := ⟨by omega, by omega⟩
  have b3 : 0 ≤ i + 3 ∧ i + 3 < sc.1 := ⟨by omega, by omega⟩
  exact qWp_ok (cut := fun pc => Nat.beq pc 2530) (K := qG 20 sc qc_L_law Q) (N := 80) (fun _ _ _ _ h => h) (And.intro rfl (qJ.imp (y106 (d := 19) (d' := 19) hS hn hr) (fun r σ1 hr1 => by
    obtain ⟨v, M1, rfl, rfl, hm⟩ := hr1
    exact (And.intro rfl (qJ.imp hm (fun r σ2 hr2 => by
      obtain ⟨b, N, rfl, rfl, hb, hR⟩ := hr2
      exact (And.intro (fun _ => (K _ _ _ (Or.inl ⟨_, rfl, hR⟩))) (fun z => absurd hb.symm z))))))))
theorem lc12 {sc : Int × (Int → Int)} {Q : qRQ} {h : qH} (hS : qSe h) {n i : Int} {u5 u6 : qV} {M : qM} (hi : 0 ≤ i ∧ i + 3 < sc.1 ∧ sc.1 ≤ 2048) (hn : n < 512) (hR : c_Rel n M) (K : ∀ (σ' : qS) (u5 u6 : qV), l_st (n + 1) h σ' → qG 20 sc qc_L_law Q 2530 (l_ls i u5 u6) [] σ') : qG 20 sc qc_L_law Q 863 (l_ls i u5 u6) [] (h, M) := by
  obtain ⟨B, hr⟩ := hR
  have q1 : qIn (i + 1) := ⟨by omega, by omega⟩
  have q2 : qIn (i + 2) := ⟨by omega, by omega⟩
  have q3 : qIn (i + 3) := ⟨by omega, by omega⟩
  have b1 : 0 ≤ i + 1 ∧ i + 1 < sc.1 := ⟨by omega, by omega⟩
  have b2 : 0 ≤ i + 2 ∧ i + 2 < sc.1 := ⟨by omega, by omega⟩
  have b3 : 0 ≤ i + 3 ∧ i + 3 < sc.1 := ⟨by omega, by omega⟩
  exact qWp_ok (cut := fun pc => Nat.beq pc 2530) (K := qG 20 sc qc_L_law Q) (N := 80) (fun _ _ _ _ h => h) (And.intro q1 (And.intro b1 (And.intro rfl (qJ.imp (l278 (D := 19) (y107 (d := 17) (d' := 17) hS hn hr)) (fun r σ1 hr1 => by
    rcases hr1 with ⟨v, M1, rfl, rfl, hm⟩ | ⟨k, M1, hk, rfl, rfl, hm⟩
    · exact (And.intro q1 (And.intro b1 (And.intro rfl (qJ.imp hm (fun r σ2 hr2 => by
      obtain ⟨b, N, rfl, rfl, h0, hb, h138, hR⟩ := hr2
      exact (And.intro rfl (qJ.imp s_Mthrown (fun r σ3 hr3 => by
      obtain ⟨rfl, rfl⟩ := hr3
      exact (And.intro (fun _ => (And.intro (fun _ => (And.intro ⟨by decide, by decide⟩ (And.intro (fun _ => (K _ _ _ (Or.inl ⟨_, rfl, hR⟩))) (fun z => absurd (l_cmp (h138.trans hb.symm)) z)))) (fun z => absurd rfl z))) (fun z => absurd h0 z))))))))))
    · exact (And.intro q1 (And.intro b1 (And.intro rfl (qJ.imp (qJ.bump 1 6 hm) (fun r σ2 hr2 => by
      obtain ⟨_, rfl, b, N, rfl, rfl, h0, hR⟩ := hr2
      exact (And.intro rfl (qJ.imp s_Mthrown (fun r σ3 hr3 => by
      obtain ⟨rfl, rfl⟩ := hr3
      exact (And.intro (fun _ => (And.intro (fun z => absurd z hk) (fun _ => (K _ _ _ (Or.inr ⟨_, rfl, hR⟩))))) (fun z => absurd h0 z)))))))))))))))
theorem lc13 {sc : Int × (Int → Int)} {Q : qRQ} {h : qH} (hS : qSe h) {n i : Int} {u5 u6 : qV} {M : qM} (hi : 0 ≤ i ∧ i + 3 < sc.1 ∧ sc.1 ≤ 2048) (hn : n < 512) (hR : c_Rel n M) (K : ∀ (σ' : qS) (u5 u6 : qV), l_st (n + 1) h σ' → qG 20 sc qc_L_law Q 2530 (l_ls i u5 u6) [] σ') : qG 20 sc qc_L_law Q 919 (l_ls i u5 u6) [] (h, M) := by
  obtain ⟨B, hr⟩ := hR
  have q1 : qIn (i + 1) := ⟨by omega, by omega⟩
  have q2 : qIn (i + 2) := ⟨by omega, by omega⟩
  have q3 : qIn (i + 3) := ⟨by omega, by omega⟩
  have b1 : 0 ≤ i + 1 ∧ i + 1 < sc.1 := ⟨by omega, by omega⟩
  have b2 : 0 ≤ i + 2 ∧ i + 2 < sc.1 := ⟨by omega, by omega⟩
  have b3 : 0 ≤ i + 3 ∧ i + 3 < sc.1 := ⟨by omega, by omega⟩
  exact qWp_ok (cut := fun pc => Nat.beq pc 2530) (K := qG 20 sc qc_L_law Q) (N := 80) (fun _ _ _ _ h => h) (And.intro q1 (And.intro b1 (And.intro q2 (And.intro b2 (And.intro rfl (qJ.imp (l279 (D := 19) (y108 (d := 16) (d' := 16) hS hn hr)) (fun r σ1 hr1 => by
    rcases hr1 with ⟨v, M1, rfl, rfl, hm⟩ | ⟨k, M1, hk, rfl, rfl, hm⟩
    · exact (And.intro q1 (And.intro b1 (And.intro q2 (And.intro b2 (And.intro rfl (qJ.imp hm (fun r σ2 hr2 => by
      obtain ⟨b, N, rfl, rfl, h0, hb, h138, hR⟩ := hr2
      exact (And.intro rfl (qJ.imp s_Mthrown (fun r σ3 hr3 => by
      obtain ⟨rfl, rfl⟩ := hr3
      exact (And.intro (fun _ => (And.intro (fun _ => (And.intro ⟨by decide, by decide⟩ (And.intro (fun _ => (K _ _ _ (Or.inl ⟨_, rfl, hR⟩))) (fun z => absurd (l_cmp (h138.trans hb.symm)) z)))) (fun z => absurd rfl z))) (fun z => absurd h0 z))))))))))))
    · exact (And.intro q1 (And.intro b1 (And.intro q2 (And.intro b2 (And.intro rfl (qJ.imp (qJ.bump 1 6 hm) (fun r σ2 hr2 => by
      obtain ⟨_, rfl, b, N, rfl, rfl, h0, hR⟩ := hr2
      exact (And.intro rfl (qJ.imp s_Mthrown (fun r σ3 hr3 => by
      obtain ⟨rfl, rfl⟩ := hr3
      exact (And.intro (fun _ => (And.intro (fun z => absurd z hk) (fun _ => (K _ _ _ (Or.inr ⟨_, rfl, hR⟩))))) (fun z => absurd h0 z)))))))))))))))))))
theorem lc14 {sc : Int × (Int → Int)} {Q : qRQ} {h : qH} (hS : qSe h) {n i : Int} {u5 u6 : qV} {M : qM} (hi : 0 ≤ i ∧ i + 3 < sc.1 ∧ sc.1 ≤ 2048) (hn : n < 512) (hR : c_Rel n M) (K : ∀ (σ' : qS) (u5 u6 : qV), l_st (n + 1) h σ' → qG 20 sc qc_L_law Q 2530 (l_ls i u5 u6) [] σ') : qG 20 sc qc_L_law Q 987 (l_ls i u5 u6) [] (h, M) := by
  obtain ⟨B, hr⟩ := hR
  have q1 : qIn (i + 1) := ⟨by omega, by omega⟩
  have q2 : qIn (i + 2) := ⟨by omega, by omega⟩
  have q3 : qIn (i + 3) := ⟨by omega, by omega⟩
  have b1 : 0 ≤ i + 1 ∧ i + 1 < sc.1 := ⟨by omega, by omega⟩
  have b2 : 0 ≤ i + 2 ∧ i + 2 < sc.1 := ⟨by omega, by omega⟩
  have b3 : 0 ≤ i + 3 ∧ i + 3 < sc.1 := ⟨by omega, by omega⟩
  exact qWp_ok (cut := fun pc => Nat.beq pc 2530) (K := qG 20 sc qc_L_law Q) (N := 80) (fun _ _ _ _ h => h) (And.intro q1 (And.intro b1 (And.intro q2 (And.intro b2 (And.intro q3 (And.intro b3 (And.intro rfl (qJ.imp (l280 (D := 19) (y109 (d := 15) (d' := 14) hS hn hr)) (fun r σ1 hr1 => by
    rcases hr1 with ⟨v, M1, rfl, rfl, hm⟩ | ⟨k, M1, hk, rfl, rfl, hm⟩
    · exact (And.intro q1 (And.intro b1 (And.intro q2 (And.intro b2 (And.intro q3 (And.intro b3 (And.intro rfl (qJ.imp hm (fun r σ2 hr2 => by
      obtain ⟨b, N, rfl, rfl, h0, hb, h138, hR⟩ := hr2
      exact (And.intro rfl (qJ.imp s_Mthrown (fun r σ3 hr3 => by
      obtain ⟨rfl, rfl⟩ := hr3
      exact (And.intro (fun _ => (And.intro (fun _ => (And.intro ⟨by decide, by decide⟩ (And.intro (fun _ => (K _ _ _ (Or.inl ⟨_, rfl, hR⟩))) (fun z => absurd (l_cmp (h138.trans hb.symm)) z)))) (fun z => absurd rfl z))) (fun z => absurd h0 z))))))))))))))
    · exact (And.intro q1 (And.intro b1 (And.intro q2 (And.intro b2 (And.intro q3 (And.intro b3 (And.intro rfl (qJ.imp (qJ.bump 1 6 hm) (fun r σ2 hr2 => by
      obtain ⟨_, rfl, b, N, rfl, rfl, h0, hR⟩ := hr2
      exact (And.intro rfl (qJ.imp s_Mthrown (fun r σ3 hr3 => by
      obtain ⟨rfl, rfl⟩ := hr3
      exact (And.intro (fun _ => (And.intro (fun z => absurd z hk) (fun _ => (K _ _ _ (Or.inr ⟨_, rfl, hR⟩))))) (fun z => absurd h0 z)))))))))))))))))))))))
theorem lc15 {sc : Int × (Int → Int)} {Q : qRQ} {h : qH} (hS : qSe h) {n i : Int} {u5 u6 : qV} {M : qM} (hi : 0 ≤ i ∧ i + 3 < sc.1 ∧ sc.1 ≤ 2048) (hn : n < 512) (hR : c_Rel n M) (K : ∀ (σ' : qS) (u5 u6 : qV), l_st (n + 1) h σ' → qG 20 sc qc_L_law Q 2530 (l_ls i u5 u6) [] σ') : qG 20 sc qc_L_law Q 1067 (l_ls i u5 u6) [] (h, M) := by
  obtain ⟨B, hr⟩ := hR
  have q1 : qIn (i + 1) := ⟨by omega, by omega⟩
  have q2 : qIn (i + 2) := ⟨by omega, by omega⟩
  have q3 : qIn (i + 3) := ⟨by omega, by omega⟩
  have b1 : 0 ≤ i + 1 ∧ i + 1 < sc.1 := ⟨by omega, by omega⟩
  have b2 : 0 ≤ i + 2 ∧ i + 2 < sc.1 := ⟨by omega, by omega⟩
  have b3 : 0 ≤ i + 3 ∧ i + 3 < sc.1 := ⟨by omega, by omega⟩
  exact qWp_ok (cut := fun pc => Nat.beq pc 2530) (K := qG 20 sc qc_L_law Q) (N := 80) (fun _ _ _ _ h => h) (And.intro q1 (And.intro b1 (And.intro q2 (And.intro b2 (And.intro rfl (qJ.imp (l281 (D := 19) (y110 (d := 16) (d' := 15) hS hn hr)) (fun r σ1 hr1 => by
    rcases hr1 with ⟨v, M1, rfl, rfl, hm⟩ | ⟨k, M1, hk, rfl, rfl, hm⟩
    · exact (And.intro q1 (And.intro b1 (And.intro q2 (And.intro b2 (And.intro rfl (qJ.imp hm (fun r σ2 hr2 => by
      obtain ⟨b, N, rfl, rfl, h0, hb, h138, hR⟩ := hr2
      exact (And.intro rfl (qJ.imp s_Mthrown (fun r σ3 hr3 => by
      obtain ⟨rfl, rfl⟩ := hr3
      exact (And.intro (fun _ => (And.intro (fun _ => (And.intro ⟨by decide, by decide⟩ (And.intro (fun _ => (K _ _ _ (Or.inl ⟨_, rfl, hR⟩))) (fun z => absurd (l_cmp (h138.trans hb.symm)) z)))) (fun z => absurd rfl z))) (fun z => absurd h0 z))))))))))))
    · exact (And.intro q1 (And.intro b1 (And.intro q2 (And.intro b2 (And.intro rfl (qJ.imp (qJ.bump 1 6 hm) (fun r σ2 hr2 => by
      obtain ⟨_, rfl, b, N, rfl, rfl, h0, hR⟩ := hr2
      exact (And.intro rfl (qJ.imp s_Mthrown (fun r σ3 hr3 => by
      obtain ⟨rfl, rfl⟩ := hr3
      exact (And.intro (fun _ => (And.intro (fun z => absurd z hk) (fun _ => (K _ _ _ (Or.inr ⟨_, rfl, hR⟩))))) (fun z => absurd h0 z)))))))))))))))))))
theorem lc16 {sc : Int × (Int → Int)} {Q : qRQ} {h : qH} (hS : qSe h) {n i : Int} {u5 u6 : qV} {M : qM} (hi : 0 ≤ i ∧ i + 3 < sc.1 ∧ sc.1 ≤ 2048) (hn : n < 512) (hR : c_Rel n M) (K : ∀ (σ' : qS) (u5 u6 : qV), l_st (n + 1) h σ' → qG 20 sc qc_L_law Q 2530 (l_ls i u5 u6) [] σ') : qG 20 sc qc_L_law Q 1135 (l_ls i u5 u6) [] (h, M) := by
  obtain ⟨B, hr⟩ := hR
  have q1 : qIn (i + 1) := ⟨by omega, by omega⟩
  have q2 : qIn (i + 2) := ⟨by omega, by omega⟩
  have q3 : qIn (i + 3) := ⟨by omega, by omega⟩
  have b1 : 0 ≤ i + 1 ∧ i + 1 < sc.1 := ⟨by omega, by omega⟩
  have b2 : 0 ≤ i + 2 ∧ i + 2 < sc.1 := ⟨by omega, by omega⟩
  have b3 : 0 ≤ i + 3 ∧ i + 3 < sc.1 := ⟨by omega, by omega⟩
  exact qWp_ok (cut := fun pc => Nat.beq pc 2530) (K := qG 20 sc qc_L_law Q) (N := 80) (fun _ _ _ _ h => h) (And.intro q1 (And.intro b1 (And.intro q2 (And.intro b2 (And.intro q3 (And.intro b3 (And.intro rfl (qJ.imp (l282 (D := 19) (y111 (d := 16) (d' := 16) hS hn hr)) (fun r σ1 hr1 => by
    rcases hr1 with ⟨v, M1, rfl, rfl, hm⟩ | ⟨k, M1, hk, rfl, rfl, hm⟩
    · exact (And.intro q1 (And.intro b1 (And.intro q2 (And.intro b2 (And.intro q3 (And.intro b3 (And.intro rfl (qJ.imp hm (fun r σ2 hr2 => by
      obtain ⟨b, N, rfl, rfl, h0, hb, h138, hR⟩ := hr2
      exact (And.intro rfl (qJ.imp s_Mthrown (fun r σ3 hr3 => by
      obtain ⟨rfl, rfl⟩ := hr3
      exact (And.intro (fun _ => (And.intro (fun _ => (And.intro ⟨by decide, by decide⟩ (And.intro (fun _ => (K _ _ _ (Or.inl ⟨_, rfl, hR⟩))) (fun z => absurd (l_cmp (h138.trans hb.symm)) z)))) (fun z => absurd rfl z))) (fun z => absurd h0 z))))))))))))))
    · exact (And.intro q1 (And.intro b1 (And.intro q2 (And.intro b2 (And.intro q3 (And.intro b3 (And.intro rfl (qJ.imp (qJ.bump 1 6 hm) (fun r σ2 hr2 => by
      obtain ⟨_, rfl, b, N, rfl, rfl, h0, hR⟩ := hr2
      exact (And.intro rfl (qJ.imp s_Mthrown (fun r σ3 hr3 => by
      obtain ⟨rfl, rfl⟩ := hr3
      exact (And.intro (fun _ => (And.intro (fun z => absurd z hk) (fun _ => (K _ _ _ (Or.inr ⟨_, rfl, hR⟩))))) (fun z => absurd h0 z)))))))))))))))))))))))
theorem lc17 {sc : Int × (Int → Int)} {Q : qRQ} {h : qH} (hS : qSe h) {n i : Int} {u5 u6 : qV} {M : qM} (hi : 0 ≤ i ∧ i + 3 < sc.1 ∧ sc.1 ≤ 2048) (hn : n < 512) (hR : c_Rel n M) (K : ∀ (σ' : qS) (u5 u6 : qV), l_st (n + 1) h σ' → qG 20 sc qc_L_law Q 2530 (l_ls i u5 u6) [] σ') : qG 20 sc qc_L_law Q 1215 (l_ls i u5 u6) [] (h, M) := by
  obtain ⟨B, hr⟩ := hR
  have q1 : qIn (i + 1) := ⟨by omega, by omega⟩
  have q2 : qIn (i + 2) := ⟨by omega, by omega⟩
  have q3 : qIn (i + 3) := ⟨by omega, by omega⟩
  have b1 : 0 ≤ i + 1 ∧ i + 1 < sc.1 := ⟨by omega, by omega⟩
  have b2 : 0 ≤ i + 2 ∧ i + 2 < sc.1 := ⟨by omega, by omega⟩
  have b3 : 0 ≤ i + 3 ∧ i + 3 < sc.1 := ⟨by omega, by omega⟩
  exact qWp_ok (cut := fun pc => Nat.beq pc 2530) (K := qG 20 sc qc_L_law Q) (N := 80) (fun _ _ _ _ h => h) (And.intro q1 (And.intro b1 (And.intro q2 (And.intro b2 (And.intro rfl (qJ.imp (l283 (D := 19) (y112 (d := 16) (d' := 15) hS hn hr)) (fun r σ1 hr1 => by
    rcases hr1 with ⟨v, M1, rfl, rfl, hm⟩ | ⟨k, M1, hk, rfl, rfl, hm⟩
    · exact (And.intro q1 (And.intro b1 (And.intro q2 (And.intro b2 (And.intro rfl (qJ.imp hm (fun r σ2 hr2 => by
      obtain ⟨b, N, rfl, rfl, h0, hb, h138, hR⟩ := hr2
      exact (And.intro rfl (qJ.imp s_Mthrown (fun r σ3 hr3 => by
      obtain ⟨rfl, rfl⟩ := hr3
      exact (And.intro (fun _ => (And.intro (fun _ => (And.intro ⟨by decide, by decide⟩ (And.intro (fun _ => (K _ _ _ (Or.inl ⟨_, rfl, hR⟩))) (fun z => absurd (l_cmp (h138.trans hb.symm)) z)))) (fun z => absurd rfl z))) (fun z => absurd h0 z))))))))))))
    · exact (And.intro q1 (And.intro b1 (And.intro q2 (And.intro b2 (And.intro rfl (qJ.imp (qJ.bump 1 6 hm) (fun r σ2 hr2 => by
      obtain ⟨_, rfl, b, N, rfl, rfl, h0, hR⟩ := hr2
      exact (And.intro rfl (qJ.imp s_Mthrown (fun r σ3 hr3 => by
      obtain ⟨rfl, rfl⟩ := hr3
      exact (And.intro (fun _ => (And.intro (fun z => absurd z hk) (fun _ => (K _ _ _ (Or.inr ⟨_, rfl, hR⟩))))) (fun z => absurd h0 z)))))))))))))))))))
theorem lc18 {sc : Int × (Int → Int)} {Q : qRQ} {h : qH} (hS : qSe h) {n i : Int} {u5 u6 : qV} {M : qM} (hi : 0 ≤ i ∧ i + 3 < sc.1 ∧ sc.1 ≤ 2048) (hn : n < 512) (hR : c_Rel n M) (K : ∀ (σ' : qS) (u5 u6 : qV), l_st (n + 1) h σ' → qG 20 sc qc_L_law Q 2530 (l_ls i u5 u6) [] σ') : qG 20 sc qc_L_law Q 1283 (l_ls i u5 u6) [] (h, M) := by
  obtain ⟨B, hr⟩ := hR
  have q1 : qIn (i + 1) := ⟨by omega, by omega⟩
  have q2 : qIn (i + 2) := ⟨by omega, by omega⟩
  have q3 : qIn (i + 3) := ⟨by omega, by omega⟩
  have b1 : 0 ≤ i + 1 ∧ i + 1 < sc.1 := ⟨by omega, by omega⟩
  have b2 : 0 ≤ i + 2 ∧ i + 2 < sc.1 := ⟨by omega, by omega⟩
  have b3 : 0 ≤ i + 3 ∧ i + 3 < sc.1 := ⟨by omega, by omega⟩
  exact qWp_ok (cut := fun pc => Nat.beq pc 2530) (K := qG 20 sc qc_L_law Q) (N := 80) (fun _ _ _ _ h => h) (And.intro q1 (And.intro b1 (And.intro rfl (qJ.imp (l284 (D := 19) (y113 (d := 17) (d' := 16) hS hn hr)) (fun r σ1 hr1 => by
    rcases hr1 with ⟨v, M1, rfl, rfl, hm⟩ | ⟨k, M1, hk, rfl, rfl, hm⟩
    · exact (And.intro q1 (And.intro b1 (And.intro rfl (qJ.imp hm (fun r σ2 hr2 => by
      obtain ⟨b, N, rfl, rfl, h0, hb, h138, hR⟩ := hr2
      exact (And.intro rfl (qJ.imp s_Mthrown (fun r σ3 hr3 => by
      obtain ⟨rfl, rfl⟩ := hr3
      exact (And.intro (fun _ => (And.intro (fun _ => (And.intro ⟨by decide, by decide⟩ (And.intro (fun _ => (K _ _ _ (Or.inl ⟨_, rfl, hR⟩))) (fun z => absurd (l_cmp (h138.trans hb.symm)) z)))) (fun z => absurd rfl z))) (fun z => absurd h0 z))))))))))
    · exact (And.intro q1 (And.intro b1 (And.intro rfl (qJ.imp (qJ.bump 1 6 hm) (fun r σ2 hr2 => by
      obtain ⟨_, rfl, b, N, rfl, rfl, h0, hR⟩ := hr2
      exact (And.intro rfl (qJ.imp s_Mthrown (fun r σ3 hr3 => by
      obtain ⟨rfl, rfl⟩ := hr3
      exact (And.intro (fun _ => (And.intro (fun z => absurd z hk) (fun _ => (K _ _ _ (Or.inr ⟨_, rfl, hR⟩))))) (fun z => absurd h0 z)))))))))))))))
theorem lc19 {sc : Int × (Int → Int)} {Q : qRQ} {h : qH} (hS : qSe h) {n i : Int} {u5 u6 : qV} {M : qM} (hi : 0 ≤ i ∧ i + 3 < sc.1 ∧ sc.1 ≤ 2048) (hn : n < 512) (hR : c_Rel n M) (K : ∀ (σ' : qS) (u5 u6 : qV), l_st (n + 1) h σ' → qG 20 sc qc_L_law Q 2530 (l_ls i u5 u6) [] σ') : qG 20 sc qc_L_law Q 1339 (l_ls i u5 u6) [] (h, M) := by
  obtain ⟨B, hr⟩ := hR
  have q1 : qIn (i + 1) := ⟨by omega, by omega⟩
  have q2 : qIn (i + 2) := ⟨by omega, by omega⟩
  have q3 : qIn (i + 3) := ⟨by omega, by omega⟩
  have b1 : 0 ≤ i + 1 ∧ i + 1 < sc.1 := ⟨by omega, by omega⟩
  have b2 : 0 ≤ i + 2 ∧ i + 2 < sc.1 := ⟨by omega, by omega⟩
  have b3 : 0 ≤ i + 3 ∧ i + 3 < sc.1 := ⟨by omega, by omega⟩
  exact qWp_ok (cut := fun pc => Nat.beq pc 2530) (K := qG 20 sc qc_L_law Q) (N := 80) (fun _ _ _ _ h => h) (And.intro rfl (qJ.imp (l285 (D := 19) (y114 (d := 17) (d' := 18) hS hn hr)) (fun r σ1 hr1 => by
    rcases hr1 with ⟨v, M1, rfl, rfl, hm⟩ | ⟨k, M1, hk, rfl, rfl, hm⟩
    · exact (And.intro rfl (qJ.imp hm (fun r σ2 hr2 => by
      obtain ⟨b, N, rfl, rfl, h0, hb, h138, hR⟩ := hr2
      exact (And.intro rfl (qJ.imp s_Mthrown (fun r σ3 hr3 => by
      obtain ⟨rfl, rfl⟩ := hr3
      exact (And.intro (fun _ => (And.intro (fun _ => (And.intro ⟨by decide, by decide⟩ (And.intro (fun _ => (K _ _ _ (Or.inl ⟨_, rfl, hR⟩))) (fun z => absurd (l_cmp (h138.trans hb.symm)) z)))) (fun z => absurd rfl z))) (fun z => absurd h0 z))))))))
    · exact (And.intro rfl (qJ.imp (qJ.bump 1 6 hm) (fun r σ2 hr2 => by
      obtain ⟨_, rfl, b, N, rfl, rfl, h0, hR⟩ := hr2
      exact (And.intro rfl (qJ.imp s_Mthrown (fun r σ3 hr3 => by
      obtain ⟨rfl, rfl⟩ := hr3
      exact (And.intro (fun _ => (And.intro (fun z => absurd z hk) (fun _ => (K _ _ _ (Or.inr ⟨_, rfl, hR⟩))))) (fun z => absurd h0 z)))))))))))
