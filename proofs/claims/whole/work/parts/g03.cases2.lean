/-! ===== the law's cases 20 to 29, by wip/gen/genlaw.py ===== -/
theorem lc20 {sc : Int × (Int → Int)} {Q : qRQ} {h : qH} (hS : qSe h) {n i : Int} {u5 u6 : qV} {M : qM} (hi : 0 ≤ i ∧ i + 3 < sc.1 ∧ sc.1 ≤ 2048) (hn : n < 512) (hR : c_Rel n M) (K : ∀ (σ' : qS) (u5 u6 : qV), l_st (n + 1) h σ' → qG 20 sc qc_L_law Q 2530 (l_ls i u5 u6) [] σ') : qG 20 sc qc_L_law Q 1383 (l_ls i u5 u6) [] (h, M) := by
  obtain ⟨B, hr⟩ := hR
  have q1 : qIn (i + 1) := ⟨by omega, by omega⟩
  have q2 : qIn (i + 2) := ⟨by omega, by omega⟩
  have q3 : qIn (i + 3) := ⟨by omega, by omega⟩
  have b1 : 0 ≤ i + 1 ∧ i + 1 < sc.1 := ⟨by omega, by omega⟩
  have b2 : 0 ≤ i + 2 ∧ i + 2 < sc.1 := ⟨by omega, by omega⟩
  have b3 : 0 ≤ i + 3 ∧ i + 3 < sc.1 := ⟨by omega, by omega⟩
  exact qWp_ok (cut := fun pc => Nat.beq pc 2530) (K := qG 20 sc qc_L_law Q) (N := 80) (fun _ _ _ _ h => h) (And.intro rfl (qJ.imp (l286 (D := 19) (y115 (d := 17) (d' := 18) hS hn hr)) (fun r σ1 hr1 => by
    rcases hr1 with ⟨v, M1, rfl, rfl, hm⟩ | ⟨k, M1, hk, rfl, rfl, hm⟩
    · exact (And.intro rfl (qJ.imp hm (fun r σ2 hr2 => by
      obtain ⟨b, N, rfl, rfl, h0, hb, h138, hR⟩ := hr2
      exact (And.intro rfl (qJ.imp s_Mthrown (fun r σ3 hr3 => by
      obtain ⟨rfl, rfl⟩ := hr3
      exact (And.intro (fun _ => (And.intro (fun _ => (And.intro ⟨by decide, by decide⟩ (And.intro (fun _ => (K _ _ _ (Or.inl ⟨_, rfl, hR⟩))) (fun z => absurd (l_cmp (h138.trans hb.symm)) z)))) (fun z => absurd rfl z))) (fun z => absurd h0 z))))))))
    · exact (And.intro rfl (qJ.imp (qJ.bump 1 6 hm) (fun r σ2 hr2 => by
      obtain ⟨_, rfl, b, N, rfl, rfl, h0, hR⟩ := hr2
      exact (And.intro rfl (qJ.imp s_Mthrown (fun r σ3 hr3 => by
      obtain ⟨rfl, rfl⟩ := hr3
      exact (And.intro (fun _ => (And.intro (fun z => absurd z hk) (fun _ => (K _ _ _ (Or.inr ⟨_, rfl, hR⟩))))) (fun z => absurd h0 z)))))))))))
theorem lc21 {sc : Int × (Int → Int)} {Q : qRQ} {h : qH} (hS : qSe h) {n i : Int} {u5 u6 : qV} {M : qM} (hi : 0 ≤ i ∧ i + 3 < sc.1 ∧ sc.1 ≤ 2048) (hn : n < 512) (hR : c_Rel n M) (K : ∀ (σ' : qS) (u5 u6 : qV), l_st (n + 1) h σ' → qG 20 sc qc_L_law Q 2530 (l_ls i u5 u6) [] σ') : qG 20 sc qc_L_law Q 1427 (l_ls i u5 u6) [] (h, M) := by
  obtain ⟨B, hr⟩ := hR
  have q1 : qIn (i + 1) := ⟨by omega, by omega⟩
  have q2 : qIn (i + 2) := ⟨by omega, by omega⟩
  have q3 : qIn (i + 3) := ⟨by omega, by omega⟩
  have b1 : 0 ≤ i + 1 ∧ i + 1 < sc.1 := ⟨by omega, by omega⟩
  have b2 : 0 ≤ i + 2 ∧ i + 2 < sc.1 := ⟨by omega, by omega⟩
  have b3 : 0 ≤ i + 3 ∧ i + 3 < sc.1 := ⟨by omega, by omega⟩
  exact qWp_ok (cut := fun pc => Nat.beq pc 2530) (K := qG 20 sc qc_L_law Q) (N := 80) (fun _ _ _ _ h => h) (And.intro q1 (And.intro b1 (And.intro rfl (qJ.imp (l287 (D := 19) (y116 (d := 17) (d' := 18) hS hn hr)) (fun r σ1 hr1 => by
    rcases hr1 with ⟨v, M1, rfl, rfl, hm⟩ | ⟨k, M1, hk, rfl, rfl, hm⟩
    · exact (And.intro q1 (And.intro b1 (And.intro rfl (qJ.imp hm (fun r σ2 hr2 => by
      obtain ⟨b, N, rfl, rfl, h0, hb, h138, hR⟩ := hr2
      exact (And.intro rfl (qJ.imp s_Mthrown (fun r σ3 hr3 => by
      obtain ⟨rfl, rfl⟩ := hr3
      exact (And.intro (fun _ => (And.intro (fun _ => (And.intro ⟨by decide, by decide⟩ (And.intro (fun _ => (K _ _ _ (Or.inl ⟨_, rfl, hR⟩))) (fun z => absurd (l_cmp (h138.trans hb.symm)) z)))) (fun z => absurd rfl z))) (fun z => absurd h0 z))))))))))
    · exact (And.intro q1 (And.intro b1 (And.intro rfl (qJ.imp (qJ.bump 1 6 hm) (fun r σ2 hr2 => by
      obtain ⟨_, rfl, b, N, rfl, rfl, h0, hR⟩ := hr2
      exact (And.intro rfl (qJ.imp s_Mthrown (fun r σ3 hr3 => by
      obtain ⟨rfl, rfl⟩ := hr3
      exact (And.intro (fun _ => (And.intro (fun z => absurd z hk) (fun _ => (K _ _ _ (Or.inr ⟨_, rfl, hR⟩))))) (fun z => absurd h0 z)))))))))))))))
theorem lc22 {sc : Int × (Int → Int)} {Q : qRQ} {h : qH} (hS : qSe h) {n i : Int} {u5 u6 : qV} {M : qM} (hi : 0 ≤ i ∧ i + 3 < sc.1 ∧ sc.1 ≤ 2048) (hn : n < 512) (hR : c_Rel n M) (K : ∀ (σ' : qS) (u5 u6 : qV), l_st (n + 1) h σ' → qG 20 sc qc_L_law Q 2530 (l_ls i u5 u6) [] σ') : qG 20 sc qc_L_law Q 1483 (l_ls i u5 u6) [] (h, M) := by
  obtain ⟨B, hr⟩ := hR
  have q1 : qIn (i + 1) := ⟨by omega, by omega⟩
  have q2 : qIn (i + 2) := ⟨by omega, by omega⟩
  have q3 : qIn (i + 3) := ⟨by omega, by omega⟩
  have b1 : 0 ≤ i + 1 ∧ i + 1 < sc.1 := ⟨by omega, by omega⟩
  have b2 : 0 ≤ i + 2 ∧ i + 2 < sc.1 := ⟨by omega, by omega⟩
  have b3 : 0 ≤ i + 3 ∧ i + 3 < sc.1 := ⟨by omega, by omega⟩
  exact qWp_ok (cut := fun pc => Nat.beq pc 2530) (K := qG 20 sc qc_L_law Q) (N := 80) (fun _ _ _ _ h => h) (And.intro q1 (And.intro b1 (And.intro q2 (And.intro b2 (And.intro (fun z1 => (And.intro rfl (qJ.imp (l288 (D := 19) (y117 (d := 17) (d' := 16) hS hn hr)) (fun r σ1 hr1 => by
    rcases hr1 with ⟨v, M1, rfl, rfl, hm⟩ | ⟨k, M1, hk, rfl, rfl, hm⟩
    · exact (And.intro q1 (And.intro b1 (And.intro q2 (And.intro b2 (And.intro (fun _ => (And.intro rfl (qJ.imp hm (fun r σ2 hr2 => by
      obtain ⟨b, N, rfl, rfl, h0, hb, h138, hR⟩ := hr2
      exact (And.intro rfl (qJ.imp s_Mthrown (fun r σ3 hr3 => by
      obtain ⟨rfl, rfl⟩ := hr3
      exact (And.intro (fun _ => (And.intro (fun _ => (And.intro ⟨by decide, by decide⟩ (And.intro (fun _ => (K _ _ _ (Or.inl ⟨_, rfl, hR⟩))) (fun z => absurd (l_cmp (h138.trans hb.symm)) z)))) (fun z => absurd rfl z))) (fun z => absurd h0 z))))))))) (fun q => absurd z1 q))))))
    · exact (And.intro q1 (And.intro b1 (And.intro q2 (And.intro b2 (And.intro (fun _ => (And.intro rfl (qJ.imp (qJ.bump 1 6 hm) (fun r σ2 hr2 => by
      obtain ⟨_, rfl, b, N, rfl, rfl, h0, hR⟩ := hr2
      exact (And.intro rfl (qJ.imp s_Mthrown (fun r σ3 hr3 => by
      obtain ⟨rfl, rfl⟩ := hr3
      exact (And.intro (fun _ => (And.intro (fun z => absurd z hk) (fun _ => (K _ _ _ (Or.inr ⟨_, rfl, hR⟩))))) (fun z => absurd h0 z))))))))) (fun q => absurd z1 q)))))))))) (fun z1 => (And.intro rfl (qJ.imp (l288 (D := 19) (y117 (d := 17) (d' := 16) hS hn hr)) (fun r σ1 hr1 => by
    rcases hr1 with ⟨v, M1, rfl, rfl, hm⟩ | ⟨k, M1, hk, rfl, rfl, hm⟩
    · exact (And.intro q1 (And.intro b1 (And.intro q2 (And.intro b2 (And.intro (fun q => absurd q z1) (fun _ => (And.intro rfl (qJ.imp hm (fun r σ2 hr2 => by
      obtain ⟨b, N, rfl, rfl, h0, hb, h138, hR⟩ := hr2
      exact (And.intro rfl (qJ.imp s_Mthrown (fun r σ3 hr3 => by
      obtain ⟨rfl, rfl⟩ := hr3
      exact (And.intro (fun _ => (And.intro (fun _ => (And.intro ⟨by decide, by decide⟩ (And.intro (fun _ => (K _ _ _ (Or.inl ⟨_, rfl, hR⟩))) (fun z => absurd (l_cmp (h138.trans hb.symm)) z)))) (fun z => absurd rfl z))) (fun z => absurd h0 z))))))))))))))
    · exact (And.intro q1 (And.intro b1 (And.intro q2 (And.intro b2 (And.intro (fun q => absurd q z1) (fun _ => (And.intro rfl (qJ.imp (qJ.bump 1 6 hm) (fun r σ2 hr2 => by
      obtain ⟨_, rfl, b, N, rfl, rfl, h0, hR⟩ := hr2
      exact (And.intro rfl (qJ.imp s_Mthrown (fun r σ3 hr3 => by
      obtain ⟨rfl, rfl⟩ := hr3
      exact (And.intro (fun _ => (And.intro (fun z => absurd z hk) (fun _ => (K _ _ _ (Or.inr ⟨_, rfl, hR⟩))))) (fun z => absurd h0 z)))))))))))))))))))))))
theorem lc23 {sc : Int × (Int → Int)} {Q : qRQ} {h : qH} (hS : qSe h) {n i : Int} {u5 u6 : qV} {M : qM} (hi : 0 ≤ i ∧ i + 3 < sc.1 ∧ sc.1 ≤ 2048) (hn : n < 512) (hR : c_Rel n M) (K : ∀ (σ' : qS) (u5 u6 : qV), l_st (n + 1) h σ' → qG 20 sc qc_L_law Q 2530 (l_ls i u5 u6) [] σ') : qG 20 sc qc_L_law Q 1567 (l_ls i u5 u6) [] (h, M) := by
  obtain ⟨B, hr⟩ := hR
  have q1 : qIn (i + 1) := ⟨by omega, by omega⟩
  have q2 : qIn (i + 2) := ⟨by omega, by omega⟩
  have q3 : qIn (i + 3) := ⟨by omega, by omega⟩
  have b1 : 0 ≤ i + 1 ∧ i + 1 < sc.1 := ⟨by omega, by omega⟩
  have b2 : 0 ≤ i + 2 ∧ i + 2 < sc.1 := ⟨by omega, by omega⟩
  have b3 : 0 ≤ i + 3 ∧ i + 3 < sc.1 := ⟨by omega, by omega⟩
  exact qWp_ok (cut := fun pc => Nat.beq pc 2530) (K := qG 20 sc qc_L_law Q) (N := 80) (fun _ _ _ _ h => h) (And.intro q1 (And.intro b1 (And.intro q2 (And.intro b2 (And.intro rfl (qJ.imp (l289 (D := 19) (y118 (d := 17) (d' := 17) hS hn hr)) (fun r σ1 hr1 => by
    rcases hr1 with ⟨v, M1, rfl, rfl, hm⟩ | ⟨k, M1, hk, rfl, rfl, hm⟩
    · exact (And.intro q1 (And.intro b1 (And.intro q2 (And.intro b2 (And.intro rfl (qJ.imp hm (fun r σ2 hr2 => by
      obtain ⟨b, N, rfl, rfl, h0, hb, h138, hR⟩ := hr2
      exact (And.intro rfl (qJ.imp s_Mthrown (fun r σ3 hr3 => by
      obtain ⟨rfl, rfl⟩ := hr3
      exact (And.intro (fun _ => (And.intro (fun _ => (And.intro ⟨by decide, by decide⟩ (And.intro (fun _ => (K _ _ _ (Or.inl ⟨_, rfl, hR⟩))) (fun z => absurd (l_cmp (h138.trans hb.symm)) z)))) (fun z => absurd rfl z))) (fun z => absurd h0 z))))))))))))
    · exact (And.intro q1 (And.intro b1 (And.intro q2 (And.intro b2 (And.intro rfl (qJ.imp (qJ.bump 1 6 hm) (fun r σ2 hr2 => by
      obtain ⟨_, rfl, b, N, rfl, rfl, h0, hR⟩ := hr2
      exact (And.intro rfl (qJ.imp s_Mthrown (fun r σ3 hr3 => by
      obtain ⟨rfl, rfl⟩ := hr3
      exact (And.intro (fun _ => (And.intro (fun z => absurd z hk) (fun _ => (K _ _ _ (Or.inr ⟨_, rfl, hR⟩))))) (fun z => absurd h0 z)))))))))))))))))))
theorem lc24 {sc : Int × (Int → Int)} {Q : qRQ} {h : qH} (hS : qSe h) {n i : Int} {u5 u6 : qV} {M : qM} (hi : 0 ≤ i ∧ i + 3 < sc.1 ∧ sc.1 ≤ 2048) (hn : n < 512) (hR : c_Rel n M) (K : ∀ (σ' : qS) (u5 u6 : qV), l_st (n + 1) h σ' → qG 20 sc qc_L_law Q 2530 (l_ls i u5 u6) [] σ') : qG 20 sc qc_L_law Q 1635 (l_ls i u5 u6) [] (h, M) := by
  obtain ⟨B, hr⟩ := hR
  have q1 : qIn (i + 1) := ⟨by omega, by omega⟩
  have q2 : qIn (i + 2) := ⟨by omega, by omega⟩
  have q3 : qIn (i + 3) := ⟨by omega, by omega⟩
  have b1 : 0 ≤ i + 1 ∧ i + 1 < sc.1 := ⟨by omega, by omega⟩
  have b2 : 0 ≤ i + 2 ∧ i + 2 < sc.1 := ⟨by omega, by omega⟩
  have b3 : 0 ≤ i + 3 ∧ i + 3 < sc.1 := ⟨by omega, by omega⟩
  exact qWp_ok (cut := fun pc => Nat.beq pc 2530) (K := qG 20 sc qc_L_law Q) (N := 80) (fun _ _ _ _ h => h) (And.intro q1 (And.intro b1 (And.intro q2 (And.intro b2 (And.intro rfl (qJ.imp (l290 (D := 19) (y119 (d := 16) (d' := 18) hS hn hr)) (fun r σ1 hr1 => by
    rcases hr1 with ⟨v, M1, rfl, rfl, hm⟩ | ⟨k, M1, hk, rfl, rfl, hm⟩
    · exact (And.intro q1 (And.intro b1 (And.intro q2 (And.intro b2 (And.intro rfl (qJ.imp hm (fun r σ2 hr2 => by
      obtain ⟨b, N, rfl, rfl, h0, hb, h138, hR⟩ := hr2
      exact (And.intro rfl (qJ.imp s_Mthrown (fun r σ3 hr3 => by
      obtain ⟨rfl, rfl⟩ := hr3
      exact (And.intro (fun _ => (And.intro (fun _ => (And.intro ⟨by decide, by decide⟩ (And.intro (fun _ => (K _ _ _ (Or.inl ⟨_, rfl, hR⟩))) (fun z => absurd (l_cmp (h138.trans hb.symm)) z)))) (fun z => absurd rfl z))) (fun z => absurd h0 z))))))))))))
    · exact (And.intro q1 (And.intro b1 (And.intro q2 (And.intro b2 (And.intro rfl (qJ.imp (qJ.bump 1 6 hm) (fun r σ2 hr2 => by
      obtain ⟨_, rfl, b, N, rfl, rfl, h0, hR⟩ := hr2
      exact (And.intro rfl (qJ.imp s_Mthrown (fun r σ3 hr3 => by
      obtain ⟨rfl, rfl⟩ := hr3
      exact (And.intro (fun _ => (And.intro (fun z => absurd z hk) (fun _ => (K _ _ _ (Or.inr ⟨_, rfl, hR⟩))))) (fun z => absurd h0 z)))))))))))))))))))
theorem lc25 {sc : Int × (Int → Int)} {Q : qRQ} {h : qH} (hS : qSe h) {n i : Int} {u5 u6 : qV} {M : qM} (hi : 0 ≤ i ∧ i + 3 < sc.1 ∧ sc.1 ≤ 2048) (hn : n < 512) (hR : c_Rel n M) (K : ∀ (σ' : qS) (u5 u6 : qV), l_st (n + 1) h σ' → qG 20 sc qc_L_law Q 2530 (l_ls i u5 u6) [] σ') : qG 20 sc qc_L_law Q 1703 (l_ls i u5 u6) [] (h, M) := by
  obtain ⟨B, hr⟩ := hR
  have q1 : qIn (i + 1) := ⟨by omega, by omega⟩
  have q2 : qIn (i + 2) := ⟨by omega, by omega⟩
  have q3 : qIn (i + 3) := ⟨by omega, by omega⟩
  have b1 : 0 ≤ i + 1 ∧ i + 1 < sc.1 := ⟨by omega, by omega⟩
  have b2 : 0 ≤ i + 2 ∧ i + 2 < sc.1 := ⟨by omega, by omega⟩
  have b3 : 0 ≤ i + 3 ∧ i + 3 < sc.1 := ⟨by omega, by omega⟩
  exact qWp_ok (cut := fun pc => Nat.beq pc 2530) (K := qG 20 sc qc_L_law Q) (N := 80) (fun _ _ _ _ h => h) (And.intro q1 (And.intro b1 (And.intro rfl (qJ.imp (l291 (D := 19) (y120 (d := 17) (d' := 16) hS hn hr)) (fun r σ1 hr1 => by
    rcases hr1 with ⟨v, M1, rfl, rfl, hm⟩ | ⟨k, M1, hk, rfl, rfl, hm⟩
    · exact (And.intro q1 (And.intro b1 (And.intro rfl (qJ.imp hm (fun r σ2 hr2 => by
      obtain ⟨b, N, rfl, rfl, h0, hb, h138, hR⟩ := hr2
      exact (And.intro rfl (qJ.imp s_Mthrown (fun r σ3 hr3 => by
      obtain ⟨rfl, rfl⟩ := hr3
      exact (And.intro (fun _ => (And.intro (fun _ => (And.intro ⟨by decide, by decide⟩ (And.intro (fun _ => (K _ _ _ (Or.inl ⟨_, rfl, hR⟩))) (fun z => absurd (l_cmp (h138.trans hb.symm)) z)))) (fun z => absurd rfl z))) (fun z => absurd h0 z))))))))))
    · exact (And.intro q1 (And.intro b1 (And.intro rfl (qJ.imp (qJ.bump 1 6 hm) (fun r σ2 hr2 => by
      obtain ⟨_, rfl, b, N, rfl, rfl, h0, hR⟩ := hr2
      exact (And.intro rfl (qJ.imp s_Mthrown (fun r σ3 hr3 => by
      obtain ⟨rfl, rfl⟩ := hr3
      exact (And.intro (fun _ => (And.intro (fun z => absurd z hk) (fun _ => (K _ _ _ (Or.inr ⟨_, rfl, hR⟩))))) (fun z => absurd h0 z)))))))))))))))
theorem lc26 {sc : Int × (Int → Int)} {Q : qRQ} {h : qH} (hS : qSe h) {n i : Int} {u5 u6 : qV} {M : qM} (hi : 0 ≤ i ∧ i + 3 < sc.1 ∧ sc.1 ≤ 2048) (hn : n < 512) (hR : c_Rel n M) (K : ∀ (σ' : qS) (u5 u6 : qV), l_st (n + 1) h σ' → qG 20 sc qc_L_law Q 2530 (l_ls i u5 u6) [] σ') : qG 20 sc qc_L_law Q 1759 (l_ls i u5 u6) [] (h, M) := by
  obtain ⟨B, hr⟩ := hR
  have q1 : qIn (i + 1) := ⟨by omega, by omega⟩
  have q2 : qIn (i + 2) := ⟨by omega, by omega⟩
  have q3 : qIn (i + 3) := ⟨by omega, by omega⟩
  have b1 : 0 ≤ i + 1 ∧ i + 1 < sc.1 := ⟨by omega, by omega⟩
  have b2 : 0 ≤ i + 2 ∧ i + 2 < sc.1 := ⟨by omega, by omega⟩
  have b3 : 0 ≤ i + 3 ∧ i + 3 < sc.1 := ⟨by omega, by omega⟩
  exact qWp_ok (cut := fun pc => Nat.beq pc 2530) (K := qG 20 sc qc_L_law Q) (N := 80) (fun _ _ _ _ h => h) (And.intro q1 (And.intro b1 (And.intro rfl (qJ.imp (l292 (D := 19) (y121 (d := 6) (d' := 14) hS hn hr)) (fun r σ1 hr1 => by
    rcases hr1 with ⟨v, M1, rfl, rfl, hm⟩ | ⟨k, M1, hk, rfl, rfl, hm⟩
    · exact (And.intro q1 (And.intro b1 (And.intro rfl (qJ.imp hm (fun r σ2 hr2 => by
      obtain ⟨b, N, rfl, rfl, h0, hb, h138, hR⟩ := hr2
      exact (And.intro rfl (qJ.imp s_Mthrown (fun r σ3 hr3 => by
      obtain ⟨rfl, rfl⟩ := hr3
      exact (And.intro (fun _ => (And.intro (fun _ => (And.intro ⟨by decide, by decide⟩ (And.intro (fun _ => (K _ _ _ (Or.inl ⟨_, rfl, hR⟩))) (fun z => absurd (l_cmp (h138.trans hb.symm)) z)))) (fun z => absurd rfl z))) (fun z => absurd h0 z))))))))))
    · exact (And.intro q1 (And.intro b1 (And.intro rfl (qJ.imp (qJ.bump 1 6 hm) (fun r σ2 hr2 => by
      obtain ⟨_, rfl, b, N, rfl, rfl, h0, hR⟩ := hr2
      exact (And.intro rfl (qJ.imp s_Mthrown (fun r σ3 hr3 => by
      obtain ⟨rfl, rfl⟩ := hr3
      exact (And.intro (fun _ => (And.intro (fun z => absurd z hk) (fun _ => (K _ _ _ (Or.inr ⟨_, rfl, hR⟩))))) (fun z => absurd h0 z)))))))))))))))
theorem lc27 {sc : Int × (Int → Int)} {Q : qRQ} {h : qH} (hS : qSe h) {n i : Int} {u5 u6 : qV} {M : qM} (hi : 0 ≤ i ∧ i + 3 < sc.1 ∧ sc.1 ≤ 2048) (hn : n < 512) (hR : c_Rel n M) (K : ∀ (σ' : qS) (u5 u6 : qV), l_st (n + 1) h σ' → qG 20 sc qc_L_law Q 2530 (l_ls i u5 u6) [] σ') : qG 20 sc qc_L_law Q 1815 (l_ls i u5 u6) [] (h, M) := by
  obtain ⟨B, hr⟩ := hR
  have q1 : qIn (i + 1) := ⟨by omega, by omega⟩
  have q2 : qIn (i + 2) := ⟨by omega, by omega⟩
  have q3 : qIn (i + 3) := ⟨by omega, by omega⟩
  have b1 : 0 ≤ i + 1 ∧ i + 1 < sc.1 := ⟨by omega, by omega⟩
  have b2 : 0 ≤ i + 2 ∧ i + 2 < sc.1 := ⟨by omega, by omega⟩
  have b3 : 0 ≤ i + 3 ∧ i + 3 < sc.1 := ⟨by omega, by omega⟩
  exact qWp_ok (cut := fun pc => Nat.beq pc 2530) (K := qG 20 sc qc_L_law Q) (N := 80) (fun _ _ _ _ h => h) (And.intro rfl (qJ.imp (l293 (D := 19) (y122b (d := 17) (d' := 18) hS hn hr)) (fun r σ1 hr1 => by
    rcases hr1 with ⟨v, M1, hv, rfl, rfl, hm⟩ | ⟨k, M1, hk, rfl, rfl, hm⟩
    · exact (And.intro rfl (qJ.imp hm (fun r σ2 hr2 => by
      obtain ⟨b, N, rfl, rfl, h0, hb, h138, hR⟩ := hr2
      exact (And.intro rfl (qJ.imp s_Mthrown (fun r σ3 hr3 => by
      obtain ⟨rfl, rfl⟩ := hr3
      exact (And.intro (fun _ => (And.intro (fun _ => (And.intro ⟨by decide, by decide⟩ (And.intro (fun z1 => (And.intro (fun _ => (K _ _ _ (Or.inl ⟨_, rfl, hR⟩))) (fun z => absurd (l_cmp ((h138.trans hb.symm).trans z1)) z))) (fun z1 => (And.intro (fun _ => (K _ _ _ (Or.inl ⟨_, rfl, hR⟩))) (fun z => absurd (l_cmp ((h138.trans hb.symm).trans (b01 hb hv z1))) z)))))) (fun z => absurd rfl z))) (fun z => absurd h0 z))))))))
    · exact (And.intro rfl (qJ.imp (qJ.bump 1 6 hm) (fun r σ2 hr2 => by
      obtain ⟨_, rfl, b, N, rfl, rfl, h0, hR⟩ := hr2
      exact (And.intro rfl (qJ.imp s_Mthrown (fun r σ3 hr3 => by
      obtain ⟨rfl, rfl⟩ := hr3
      exact (And.intro (fun _ => (And.intro (fun z => absurd z hk) (fun _ => (K _ _ _ (Or.inr ⟨_, rfl, hR⟩))))) (fun z => absurd h0 z)))))))))))
theorem lc28 {sc : Int × (Int → Int)} {Q : qRQ} {h : qH} (hS : qSe h) {n i : Int} {u5 u6 : qV} {M : qM} (hi : 0 ≤ i ∧ i + 3 < sc.1 ∧ sc.1 ≤ 2048) (hn : n < 512) (hR : c_Rel n M) (K : ∀ (σ' : qS) (u5 u6 : qV), l_st (n + 1) h σ' → qG 20 sc qc_L_law Q 2530 (l_ls i u5 u6) [] σ') : qG 20 sc qc_L_law Q 1866 (l_ls i u5 u6) [] (h, M) := by
  obtain ⟨B, hr⟩ := hR
  have q1 : qIn (i + 1) := ⟨by omega, by omega⟩
  have q2 : qIn (i + 2) := ⟨by omega, by omega⟩
  have q3 : qIn (i + 3) := ⟨by omega, by omega⟩
  have b1 : 0 ≤ i + 1 ∧ i + 1 < sc.1 := ⟨by omega, by omega⟩
  have b2 : 0 ≤ i + 2 ∧ i + 2 < sc.1 := ⟨by omega, by omega⟩
  have b3 : 0 ≤ i + 3 ∧ i + 3 < sc.1 := ⟨by omega, by omega⟩
  exact qWp_ok (cut := fun pc => Nat.beq pc 2530) (K := qG 20 sc qc_L_law Q) (N := 80) (fun _ _ _ _ h => h) (And.intro q1 (And.intro b1 (And.intro q2 (And.intro b2 (And.intro q3 (And.intro b3 (And.intro rfl (qJ.imp (l294 (D := 19) (y123 (d := 15) (d' := 14) hS hn hr)) (fun r σ1 hr1 => by
    rcases hr1 with ⟨v, M1, rfl, rfl, hm⟩ | ⟨k, M1, hk, rfl, rfl, hm⟩
    · exact (And.intro q1 (And.intro b1 (And.intro q2 (And.intro b2 (And.intro q3 (And.intro b3 (And.intro rfl (qJ.imp hm (fun r σ2 hr2 => by
      obtain ⟨b, N, rfl, rfl, h0, hb, h138, hR⟩ := hr2
      exact (And.intro rfl (qJ.imp s_Mthrown (fun r σ3 hr3 => by
      obtain ⟨rfl, rfl⟩ := hr3
      exact (And.intro (fun _ => (And.intro (fun _ => (And.intro ⟨by decide, by decide⟩ (And.intro (fun _ => (K _ _ _ (Or.inl ⟨_, rfl, hR⟩))) (fun z => absurd (l_cmp (h138.trans hb.symm)) z)))) (fun z => absurd rfl z))) (fun z => absurd h0 z))))))))))))))
    · exact (And.intro q1 (And.intro b1 (And.intro q2 (And.intro b2 (And.intro q3 (And.intro b3 (And.intro rfl (qJ.imp (qJ.bump 1 6 hm) (fun r σ2 hr2 => by
      obtain ⟨_, rfl, b, N, rfl, rfl, h0, hR⟩ := hr2
      exact (And.intro rfl (qJ.imp s_Mthrown (fun r σ3 hr3 => by
      obtain ⟨rfl, rfl⟩ := hr3
      exact (And.intro (fun _ => (And.intro (fun z => absurd z hk) (fun _ => (K _ _ _ (Or.inr ⟨_, rfl, hR⟩))))) (fun z => absurd h0 z)))))))))))))))))))))))
theorem lc29 {sc : Int × (Int → Int)} {Q : qRQ} {h : qH} (hS : qSe h) {n i : Int} {u5 u6 : qV} {M : qM} (hi : 0 ≤ i ∧ i + 3 < sc.1 ∧ sc.1 ≤ 2048) (hn : n < 512) (hR : c_Rel n M) (K : ∀ (σ' : qS) (u5 u6 : qV), l_st (n + 1) h σ' → qG 20 sc qc_L_law Q 2530 (l_ls i u5 u6) [] σ') : qG 20 sc qc_L_law Q 1946 (l_ls i u5 u6) [] (h, M) := by
  obtain ⟨B, hr⟩ := hR
  have q1 : qIn (i + 1) := ⟨by omega, by omega⟩
  have q2 : qIn (i + 2) := ⟨by omega, by omega⟩
  have q3 : qIn (i + 3) := ⟨by omega, by omega⟩
  have b1 : 0 ≤ i + 1 ∧ i + 1 < sc.1 := ⟨by omega, by omega⟩
  have b2 : 0 ≤ i + 2 ∧ i + 2 < sc.1 := ⟨by omega, by omega⟩
  have b3 : 0 ≤ i + 3 ∧ i + 3 < sc.1 := ⟨by omega, by omega⟩
  exact qWp_ok (cut := fun pc => Nat.beq pc 2530) (K := qG 20 sc qc_L_law Q) (N := 80) (fun _ _ _ _ h => h) (And.intro q1 (And.intro b1 (And.intro q2 (And.intro b2 (And.intro q3 (And.intro b3 (And.intro rfl (qJ.imp (l295 (D := 19) (y124 (d := 15) (d' := 14) hS hn hr)) (fun r σ1 hr1 => by
    rcases hr1 with ⟨v, M1, rfl, rfl, hm⟩ | ⟨k, M1, hk, rfl, rfl, hm⟩
    · exact (And.intro q1 (And.intro b1 (And.intro q2 (And.intro b2 (And.intro q3 (And.intro b3 (And.intro rfl (qJ.imp hm (fun r σ2 hr2 => by
      obtain ⟨b, N, rfl, rfl, h0, hb, h138, hR⟩ := hr2
      exact (And.intro rfl (qJ.imp s_Mthrown (fun r σ3 hr3 => by
      obtain ⟨rfl, rfl⟩ := hr3
      exact (And.intro (fun _ => (And.intro (fun _ => (And.intro ⟨by decide, by decide⟩ (And.intro (fun _ => (K _ _ _ (Or.inl ⟨_, rfl, hR⟩))) (fun z => absurd (l_cmp (h138.trans hb.symm)) z)))) (fun z => absurd rfl z))) (fun z => absurd h0 z))))))))))))))
    · exact (And.intro q1 (And.intro b1 (And.intro q2 (And.intro b2 (And.intro q3 (And.intro b3 (And.intro rfl (qJ.imp (qJ.bump 1 6 hm) (fun r σ2 hr2 => by
      obtain ⟨_, rfl, b, N, rfl, rfl, h0, hR⟩ := hr2
      exact (And.intro rfl (qJ.imp s_Mthrown (fun r σ3 hr3 => by
      obtain ⟨rfl, rfl⟩ := hr3
      exact (And.intro (fun _ => (And.intro (fun z => absurd z hk) (fun _ => (K _ _ _ (Or.inr ⟨_, rfl, hR⟩))))) (fun z => absurd h0 z)))))))))))))))))))))))
