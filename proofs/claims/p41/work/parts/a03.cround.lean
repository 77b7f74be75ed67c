theorem t16_68 {d : Nat} {h : qH} (hS : qSe h) {B Bo : pT} {L C W0 : Int → Int} {E : Int → Int → Int} {ob : Prop} {Ro : c_R} {e e' r v p0 : Int} {M : qM} {f : Int → qM → Prop} {u4 u5 : qV}
    (hB : c_ok B) (hL : c_lines B W0 L C E) (he : 0 ≤ e ∧ e < 1000) (h7 : M 2 0 7 = e + 1) (h6 : 0 < M 2 0 6) (hM : c_bk B M) (hl : ∀ x, 0 ≤ x → x < 30 → M 5 (1 + x) 10 = L x ∧ ∀ s, M 37 (1 + x) s = E x s) (hed : M 3 e 0 = B 8 0 ∧ M 3 e 1 = B 8 1) (hser : ∀ x, 0 ≤ x → x < 30 → x % 10 < B 0 (x / 10) → M 23 e x = B 7 x)
    (h0 : c_z e M)
    (hold : (¬ ob ∧ M 2 0 8 = 0) ∨ (ob ∧ (0 ≤ e' ∧ e ≠ e') ∧ M 2 0 8 = e' + 1 ∧ c_om Bo Ro e' M ∧ c_oldok B L E Bo Ro)) (hb : c_bd M) (hr : 0 ≤ r) (hv : 0 ≤ v ∧ v < 65536) (hp0 : M 3 e 4 = p0) (hp : 0 ≤ p0 ∧ p0 ≤ 100)
    (hprev : r ≠ 0 → ∀ c, 0 ≤ c → c < 3 → ¬ q_bs v c → ∃ w, c_ch (c_A B L E c) (B 0 c) w c e M ∧ c_mk B (c_A B L E c) ob Bo Ro c w)
    (H1 : ∀ M' W, fr16c e 3 M M' → c_chs B L E ob Bo Ro p0 W 3 → (∀ c, 0 ≤ c → c < 3 → c_ch (c_A B L E c) (B 0 c) (W c) c e M') → M' 3 e 4 = c_la W p0 3 → c_bd M' → e20 (d + 3) h M' (fun M'' => f 1 M''))
    (H0 : ∀ M' W c, fr16c e 3 M M' → c_bd M' → c_z e M' → 0 ≤ c → c < 3 → c_chs B L E ob Bo Ro p0 W c → 0 < B 0 c → g_none (p_T (c_A B L E c) (B 0 c) (B 8 1)) (c_keep B (c_A B L E c) ob Bo Ro c (c_fst B W p0 c)) → f 0 M') : b16_68 d h f r v 0 u4 u5 M := by
  refine q_upto (P := fun c => 0 ≤ c → ∀ M1 W u4 u5, fr16c e c M M1 → c_chs B L E ob Bo Ro p0 W c → (∀ c', 0 ≤ c' → c' < c → c_ch (c_A B L E c') (B 0 c') (W c') c' e M1) → M1 3 e 4 = c_la W p0 c.toNat → (0 ≤ M1 3 e 4 ∧ M1 3 e 4 ≤ 100 + 100 * c) → c_bd M1 → b16_68 d h f r v c u4 u5 M1) (a := 0) (b := 3) (by decide) (fun _ M1 W u4 u5 O1 hW hC hla hbd hb1 => ?_) (fun c c0 c3 ih _ M1 W u4 u5 O1 hW hC hla hbd hb1 => ?_) (Int.le_refl _) M (fun _ => (fun _ _ => 0, 0, 0, 0, 0)) u4 u5 (fun _ _ _ _ _ _ _ _ => rfl) (fun c' a b => by omega) (fun c' a b => by omega) (by rw [hp0]; rfl) (by omega) hb
  · exact w16_68 hS ⟨fun q => absurd q (by decide), fun _ => H1 M1 W O1 hW hC hla hb1⟩
  · have o7 : M1 2 0 7 = e + 1 := by rw [O1 _ _ _ (by omega) (by omega) (by omega) (by omega) (by omega)]; exact h7
    have o6 : 0 < M1 2 0 6 := by rw [O1 _ _ _ (by omega) (by omega) (by omega) (by omega) (by omega)]; exact h6
    have o1 : M1 1 c 1 = B 0 c := by rw [O1 _ _ _ (by omega) (by omega) (by omega) (by omega) (by omega)]; exact hM.1 c c0 c3
    have o54 : ∀ (k : Nat) (s : Int), (k = 9 ∨ (48 ≤ k ∧ k ≤ 61)) → M1 k (1 + 3 * e + c) s = M k (1 + 3 * e + c) s := fun k s q => O1 _ _ _ (by omega) (by omega) (by omega) (by omega) (by omega)
    have o8 : ∀ (k : Nat) (s : Int), (k = 8 ∨ (43 ≤ k ∧ k ≤ 47)) → M1 k (0 + 3 * e + c) s = M k (0 + 3 * e + c) s := fun k s q => O1 _ _ _ (by omega) (by omega) (by omega) (by omega) (by omega)
    have hbk1 : c_bk B M1 := ⟨fun c a b => by rw [O1 _ _ _ (by omega) (by omega) (by omega) (by omega) (by omega)]; exact hM.1 c a b, fun x a b => by
      rw [O1 _ _ _ (by omega) (by omega) (by omega) (by omega) (by omega), O1 _ _ _ (by omega) (by omega) (by omega) (by omega) (by omega), O1 _ _ _ (by omega) (by omega) (by omega) (by omega) (by omega), O1 _ _ _ (by omega) (by omega) (by omega) (by omega) (by omega)]; exact hM.2.1 x a b, fun y a b => by
      rw [O1 _ _ _ (by omega) (by omega) (by omega) (by omega) (by omega), O1 _ _ _ (by omega) (by omega) (by omega) (by omega) (by omega), O1 _ _ _ (by omega) (by omega) (by omega) (by omega) (by omega)]; exact hM.2.2 y a b⟩
    have hokB := c_okB hB hL ⟨c0, c3⟩
    have hD := hB.2.2.2.2.2.2.2.1
    have hT := p_T_tab (D := B 8 1) hokB hD
    generalize hA : c_A B L E c = A at *
    -- behind the chapter
    have next : ∀ (w : c_W) (M2 : qM) (u5 : qV), fr16c e (c + 1) M M2 → (∀ c', 0 ≤ c' → c' < c → c_ch (c_A B L E c') (B 0 c') (W c') c' e M2) → c_ch A (B 0 c) w c e M2 → c_mk B A ob Bo Ro c w → w_fi w = c_fst B W p0 c → M2 3 e 4 = M1 3 e 4 → c_bd M2 → b16_189 d h f r v c (c_fst B W p0 c) u5 M2 := by
      intro w M2 u5 O2 hC2 hc2 hm hfi hla2 hb2
      have e7 : M2 2 0 7 = e + 1 := by rw [O2 _ _ _ (by omega) (by omega) (by omega) (by omega) (by omega)]; exact h7
      have hW' : c_chs B L E ob Bo Ro p0 (fun x => if x = c then w else W x) (c + 1) := fun c' a b => by
        have cg : c_fst B (fun x => if x = c then w else W x) p0 c' = c_fst B W p0 c' := by
          unfold c_fst
          rw [c_la_cg (W := W) c'.toNat (fun k k0 k1 => if_neg (by omega))]
        rw [cg]
        by_cases q : c' = c
        · simp only [q, if_true]; rw [hA]; exact ⟨hm, hfi⟩
        · simp only [q, if_false]; exact hW c' a (by omega)
      have laW : c_la (fun x => if x = c then w else W x) p0 c.toNat = M1 3 e 4 := by
        rw [hla]; exact c_la_cg c.toNat (fun k k0 k1 => if_neg (by omega))
      have las : c_la (fun x => if x = c then w else W x) p0 (c + 1).toNat = if 0 < w_fi w then w_fi w + w_ct w - 1 else M1 3 e 4 := by
        rw [show (c + 1).toNat = c.toNat + 1 by omega]
        show (if 0 < w_fi (if ((c.toNat : Nat) : Int) = c then w else W _) then w_fi (if ((c.toNat : Nat) : Int) = c then w else W _) + w_ct (if ((c.toNat : Nat) : Int) = c then w else W _) - 1 else c_la (fun x => if x = c then w else W x) p0 c.toNat) = _
        rw [laW, if_pos (show ((c.toNat : Nat) : Int) = c by omega)]
      have go : ∀ M3 x, M3 = qU M2 3 e 4 x → x = (if 0 < w_fi w then w_fi w + w_ct w - 1 else M1 3 e 4) → (0 ≤ x ∧ x ≤ 100 + 100 * (c + 1)) → ∀ u4 u5, b16_68 d h f r v (c + 1) u4 u5 M3 := fun M3 x f3 hx hx2 u4 u5 => by
        have O3 : ∀ (k : Nat) (m s : Int), ¬ (k = 3 ∧ m = e ∧ s = 4) → M3 k m s = M2 k m s := fun k m s q => by rw [f3]; unfold qU; rw [if_neg q]
        have v4 : M3 3 e 4 = x := by rw [f3, qU_s]
        refine ih (by omega) M3 (fun x => if x = c then w else W x) u4 u5 (fun k m s q1 q2 q3 q4 q5 => by rw [O3 k m s q3]; exact O2 k m s q1 q2 q3 q4 q5) hW' (fun c' a b => ?_) (by rw [v4, las, hx]) (by rw [v4]; exact hx2) ⟨fun s => by rw [O3 _ _ _ (by omega)]; exact hb2.1 s, fun s => by rw [O3 _ _ _ (by omega)]; exact hb2.2 s⟩
        by_cases q : c' = c
        · simp only [q, if_true]
          rw [hA]
          exact c_ch_fr hc2 (fun k s _ => O3 _ _ _ (by omega)) (fun k s _ => O3 _ _ _ (by omega))
        · simp only [q, if_false]
          exact c_ch_fr (hC2 c' a (by omega)) (fun k s _ => O3 _ _ _ (by omega)) (fun k s _ => O3 _ _ _ (by omega))
      have y7 : M2 2 0 7 - 1 = e := by omega
      refine w16_189 hS ⟨fun q => by omega, fun _ => ⟨fun q => ⟨fun q => by omega, fun _ M3 f3 => ⟨⟨by omega, by omega⟩, ?_⟩, fun q => by omega⟩, fun q => ⟨fun q => by omega, fun _ => ?_, fun q => by omega⟩⟩, fun q => by omega⟩
      · rw [y7] at f3
        rw [hla2] at f3
        rw [← hfi] at q
        exact go M3 _ f3 (by rw [if_neg (by omega)]) (by omega) _ _
      · rw [y7]
        have ct := hc2.2.1.1
        rw [ct]
        rw [← hfi] at q
        have N0 : 0 < B 0 c := Classical.byContradiction fun z => q (by have := (hm.1 (by omega)).1; omega)
        obtain ⟨m1, m2, m3⟩ := hm.2 N0
        have g1 := m3.1
        have g67 : p_T A (B 0 c) (B 8 1) 8 0 ≤ 67 := hokB.2.2
        have fe : w_fi w = M1 3 e 4 + 1 + M1 3 e 4 % 2 := by rw [hfi]; unfold c_fst; rw [if_neg (by omega), ← hla]
        rw [← hfi]
        refine ⟨⟨c0, c3⟩, ⟨by omega, by omega⟩, ⟨by omega, by omega⟩, fun M3 f3 => ⟨⟨by omega, by omega⟩, ?_⟩⟩
        exact go M3 _ f3 (by rw [if_pos m1]) (by omega) _ _
    have cfst : (B 0 c ≤ 0 → c_fst B W p0 c = 0) ∧ (¬ B 0 c ≤ 0 → c_fst B W p0 c = M1 3 e 4 + 1 + M1 3 e 4 % 2) := ⟨fun q => by unfold c_fst; rw [if_pos q], fun q => by unfold c_fst; rw [if_neg q, ← hla]⟩
    -- made anew
    have fresh : ∀ u5, b16_139 d h f r v c (c_fst B W p0 c) u5 M1 := by
      intro u5
      have hwas : ob → c_was A (r_A Bo Ro c) (B 0 c) (Bo 0 c) (Bo 8 1) (c_ss B Bo c) (w_P (r_W Ro c)) (w_ct (r_W Ro c)) (w_wr (r_W Ro c)) := fun z => by
        rcases hold with hold | hold
        · exact absurd z hold.1
        · rw [← hA]; exact hold.2.2.2.2 c c0 c3
      refine w16_139 hS (t18 hS (A := A) (O := w_P (r_W Ro c)) (cnt := B 0 c) (D := B 8 1) (e := e) (wo := w_wr (r_W Ro c)) (co := w_ct (r_W Ro c)) hokB hD ⟨c0, c3⟩ he o7 o6 o1 (fun i i0 i1 => ?_) (by rw [O1 _ _ _ (by omega) (by omega) (by omega) (by omega) (by omega)]; exact hed.2) (by rw [o54 _ _ (by omega), o54 _ _ (by omega), o54 _ _ (by omega), o54 _ _ (by omega), o54 _ _ (by omega)]; exact h0 c c0 c3) ?_ (fun M2 P2 n2 O2 R2 G2 k0 P2' k2 k3 so kp => ?_))
      · have nn := hokB.1.1
        rw [← hA]
        refine c_rep hbk1 ⟨c0, c3⟩ ⟨i0, by omega⟩ ⟨?_, fun s => ?_⟩
        · rw [O1 _ _ _ (by omega) (by omega) (by omega) (by omega) (by omega)]; exact (hl _ (by omega) (by omega)).1
        · rw [O1 _ _ _ (by omega) (by omega) (by omega) (by omega) (by omega)]; exact (hl _ (by omega) (by omega)).2 s
      · rcases hold with hold | ⟨hob, z1, z2, z3, z4⟩
        · exact Or.inl (by rw [O1 _ _ _ (by omega) (by omega) (by omega) (by omega) (by omega)]; exact hold.2)
        · have ch := z3.2.2.1 c c0 c3
          have wo := c_was_old (hwas hob)
          refine Or.inr ⟨e', z1, by rw [O1 _ _ _ (by omega) (by omega) (by omega) (by omega) (by omega)]; exact z2, ⟨?_, fun k a b => ?_⟩, ?_, wo.1, wo.2⟩
          · rw [O1 _ _ _ (by omega) (by omega) (by omega) (by omega) (by omega)]; exact ch.2.1.1
          · rw [O1 _ _ _ (by omega) (by omega) (by omega) (by omega) (by omega), O1 _ _ _ (by omega) (by omega) (by omega) (by omega) (by omega), O1 _ _ _ (by omega) (by omega) (by omega) (by omega) (by omega), O1 _ _ _ (by omega) (by omega) (by omega) (by omega) (by omega), O1 _ _ _ (by omega) (by omega) (by omega) (by omega) (by omega)]
            exact ch.2.1.2 k a b
          · rw [O1 _ _ _ (by omega) (by omega) (by omega) (by omega) (by omega)]; exact ch.2.2.2.1
      · have O2' : fr16c e (c + 1) M M2 := fun k m s q1 q2 q3 q4 q5 => by
          rw [O2 k m s (by omega) (by omega) (by omega)]
          exact O1 k m s q1 q2 q3 (by omega) (by omega)
        have hC2 : ∀ c', 0 ≤ c' → c' < c → c_ch (c_A B L E c') (B 0 c') (W c') c' e M2 := fun c' a b => c_ch_fr (hC c' a b) (fun k s _ => O2 _ _ _ (by omega) (by omega) (by omega)) (fun k s _ => O2 _ _ _ (by omega) (by omega) (by omega))
        have hb2 : c_bd M2 := ⟨fun s => by rw [O2 _ _ _ (by omega) (by omega) (by omega)]; exact hb1.1 s, fun s => by rw [O2 _ _ _ (by omega) (by omega) (by omega)]; exact hb1.2 s⟩
        have e7 : M2 2 0 7 = e + 1 := by rw [O2 _ _ _ (by omega) (by omega) (by omega)]; exact o7
        have la2 : M2 3 e 4 = M1 3 e 4 := O2 _ _ _ (by omega) (by omega) (by omega)
        have keep : c_keep B A ob Bo Ro c (c_fst B W p0 c) P2 n2 := by
          rcases hold with hold | ⟨hob, z1, z2, z3, z4⟩
          · rcases kp with kp | ⟨e2, e2', _⟩
            · exact Or.inl ⟨hold.1, kp.2⟩
            · rw [O1 _ _ _ (by omega) (by omega) (by omega) (by omega) (by omega)] at e2'
              omega
          · have o28 : M1 2 0 8 = e' + 1 := by rw [O1 _ _ _ (by omega) (by omega) (by omega) (by omega) (by omega)]; exact z2
            rcases kp with kp | ⟨e2, kp1, kp2⟩
            · omega
            · have ee : e2 = e' := by omega
              subst ee
              have ow := hwas hob
              have same : ∀ (k : Nat) (m s : Int), ((k = 9 ∨ (48 ≤ k ∧ k ≤ 61)) ∧ m = 1 + 3 * e2 + c) ∨ ((k = 8 ∨ (43 ≤ k ∧ k ≤ 47)) ∧ m = 0 + 3 * e2 + c) ∨ k = 23 ∨ (k = 3 ∧ s ≠ 4) → M2 k m s = M k m s := fun k m s q => by
                rw [O2 k m s (by omega) (by omega) (by omega), O1 k m s (by omega) (by omega) (by omega) (by omega) (by omega)]
              have chO := z3.2.2.1 c c0 c3
              rw [same 3 e2 0 (by omega), same 3 e2 1 (by omega), same 3 e 0 (by omega), same 3 e 1 (by omega), same 8 _ 0 (by omega), z3.1, z3.2.1, hed.1, hed.2, chO.2.2.1] at kp2
              refine Or.inr ⟨hob, g_keepP_cg (c_was_old ow).1 (fun r r0 => ?_) kp2⟩
              exact c_srow hokB.1 ow.1.1 ⟨c0, c3⟩ R2 (p_rows_fr chO.1 (fun k s q => same _ _ _ (by omega))) (fun x a b z => by rw [same _ _ _ (by omega)]; exact hser x a b z) (fun x a b z => by rw [same _ _ _ (by omega)]; exact z3.2.2.2 x a b z) r r0
        refine w16_158 hS ⟨fun q => absurd q (by decide), fun _ => ⟨fun q => ?_, fun q => ⟨fun q => by omega, fun _ => ⟨⟨c0, c3⟩, ?_⟩, fun q => by omega⟩⟩⟩
        · have N0 : B 0 c ≤ 0 := Classical.byContradiction fun z => by have := cfst.2 z; omega
          have n0 : n2 = 0 := by
            rcases keep with keep | ⟨hob, keep⟩
            · exact keep.2
            · rcases keep with ⟨_, ⟨a1, a2⟩, _⟩ | keep
              · have ow := hwas hob
                have := (ow.2.2.2.2.1 (by have := ow.2.2.1; omega)).1
                omega
              · exact keep.2
          refine next (P2, n2, n2, 0, 0) M2 _ O2' hC2 ⟨R2, P2', by rw [k0]; exact cfst.1 N0, k2, ?_⟩ ⟨fun _ => ⟨rfl, n0, n0, rfl⟩, fun z => by omega⟩ (cfst.1 N0).symm la2 hb2
          rw [k3, n0]; rfl
        · rw [show 0 + 3 * (M2 2 0 7 - 1) + c = 0 + 3 * e + c by omega]
          have N0 : ¬ B 0 c ≤ 0 := fun z => q (by have := cfst.1 z; omega)
          have R0 : 0 < p_SR A (B 0 c) := by
            have h6 := p_okA_6 hokB.1 (i := 0) ⟨by omega, by omega⟩
            have s := p_SR_s (A := A) (i := 0) (by omega)
            have l := p_SR_le hokB.1 (i := 0 + 1) ⟨by omega, by omega⟩
            have z : p_SR A 0 = 0 := rfl
            omega
          have hR : g_bf P2 0 n2 < p_T A (B 0 c) (B 8 1) 8 0 := by
            rcases keep with keep | ⟨hob, keep⟩
            · have z : g_bf P2 0 0 = 0 := by unfold g_bf; rw [if_pos (Int.le_refl _)]
              rw [keep.2, z]; exact R0
            · exact c_was_R hokB.1 R0 (hwas hob) keep
          refine t69 hS hT G2 P2' so.1 so.2.1 hR so.2.2.1 ⟨by rw [k2]; exact so.1.1, by rw [k2]; exact Int.le_refl _⟩ (by rw [k3]; exact so.2.2.2.2) hb2.1 hb2.2 (fun hV M3 P3 n3 cw O3 b41 b40 P3' rest cw1 cw2 cw3 p4 k82 k83 => ⟨fun q => absurd q (by decide), fun _ => ?_⟩) (fun hV M3 O3 b41 b40 => ⟨fun _ => ?_, fun q => absurd rfl q⟩)
          · have made : g_made (p_T A (B 0 c) (B 8 1)) (c_keep B A ob Bo Ro c (c_fst B W p0 c)) P3 n3 (M3 8 (0 + 3 * e + c) 3) := ⟨P2, n2, keep, so, hR, hV, rest, by rw [k83, k3]⟩
            obtain ⟨cw', pgs⟩ := g_pages_of hT made (fun Q n hk => by
              rcases hk with hk | ⟨_, hk⟩
              · exact Or.inl hk.2
              · rcases hk with ⟨_, hk⟩ | hk
                · exact Or.inr ⟨_, _, _, hk⟩
                · exact Or.inl hk.2)
            have cwe : cw' = cw := by
              have p1 := pgs.1
              have so1 := so.1
              by_cases q1 : cw' ≤ cw - 1
              · have := pgs.2.2.2.1 (cw - 1) q1 (by omega); omega
              · by_cases q2 : cw < cw'
                · have := (pgs.2.1 cw (by omega) q2).1
                  have := cw3 cw (Int.le_refl _) cw1.2; omega
                · omega
            rw [cwe] at pgs
            have F0 : 0 < c_fst B W p0 c := by have := cfst.2 N0; omega
            refine next (P3, n3, cw, c_fst B W p0 c, M3 8 (0 + 3 * e + c) 3) M3 _ (fun k m s q1 q2 q3 q4 q5 => by rw [O3 k m s (by omega) (by omega) (by omega)]; exact O2' k m s q1 q2 q3 q4 q5) (fun c' a b => c_ch_fr (hC2 c' a b) (fun k s _ => O3 _ _ _ (by omega) (by omega) (by omega)) (fun k s _ => O3 _ _ _ (by omega) (by omega) (by omega))) ⟨p_rows_fr R2 (fun k s _ => O3 _ _ _ (by omega) (by omega) (by omega)), P3', ?_, ?_, rfl⟩ ⟨fun z => absurd z N0, fun _ => ⟨F0, made, pgs⟩⟩ rfl (by rw [O3 _ _ _ (by omega) (by omega) (by omega)]; exact la2) ⟨b41, b40⟩
            · rw [O3 _ _ _ (by omega) (by omega) (by omega)]; exact k0
            · rw [k82, k2]; show n2 + (cw - n2) = cw; omega
          · refine H0 M3 W c (fun k m s q1 q2 q3 q4 q5 => by rw [O3 k m s (by omega) (by omega) (by omega)]; exact O2' k m s q1 q2 q3 (by omega) (by omega)) ⟨b41, b40⟩ (fun c' a b => ?_) c0 c3 hW (by omega) ?_
            · rw [O3 _ _ _ (by omega) (by omega) (by omega), O3 _ _ _ (by omega) (by omega) (by omega), O3 _ _ _ (by omega) (by omega) (by omega), O3 _ _ _ (by omega) (by omega) (by omega), O3 _ _ _ (by omega) (by omega) (by omega)]
              rcases (show c' < c ∨ c' = c ∨ c < c' by omega) with q | q | q
              · exact p_rows_z (hC2 c' a q).1 (c_okB hB hL ⟨a, b⟩).1
              · rw [q]; exact p_rows_z R2 hokB.1
              · rw [O2' _ _ _ (by omega) (by omega) (by omega) (by omega) (by omega), O2' _ _ _ (by omega) (by omega) (by omega) (by omega) (by omega), O2' _ _ _ (by omega) (by omega) (by omega) (by omega) (by omega), O2' _ _ _ (by omega) (by omega) (by omega) (by omega) (by omega), O2' _ _ _ (by omega) (by omega) (by omega) (by omega) (by omega)]
                exact h0 c' a b
            · rw [hA]
              exact ⟨P2, n2, keep, so, hR, hV⟩
    -- as it was
    have stay : r ≠ 0 → ¬ q_bs v c → M1 8 (0 + 3 * e + c) 0 = c_fst B W p0 c → b16_158 d h f r v c (c_fst B W p0 c) 0 M1 := fun r0 nb hfi => by
      obtain ⟨w, hw1, hw2⟩ := hprev r0 c c0 c3 nb
      rw [hA] at hw1 hw2
      have ch1 := c_ch_fr hw1 o54 o8
      refine w16_158 hS ⟨fun _ => next w M1 _ (fun k m s q1 q2 q3 q4 q5 => O1 k m s q1 q2 q3 (by omega) (by omega)) hC ch1 hw2 (by rw [← ch1.2.2.1]; exact hfi) rfl hb1, fun q => absurd rfl q⟩
    have bit := q_bit hv ⟨c0, c3⟩
    have y7 : M1 2 0 7 - 1 = e := by omega
    refine w16_68 hS ⟨fun _ => ⟨fun q => by omega, fun _ => ⟨⟨c0, c3⟩, ?_⟩, fun q => by omega⟩, fun q => by omega⟩
    rw [o1, y7]
    refine ⟨fun q => ?_, fun q => ?_⟩
    · have fr := fresh
      have st := stay
      rw [cfst.1 q] at fr st
      refine ⟨fun _ => fr _, fun r0 => ⟨⟨hv.1, c0, by omega⟩, fun z => ⟨fun q => by omega, fun _ => ⟨⟨c0, c3⟩, fun z2 => st r0 (bit.mp z) z2, fun z2 => fr _⟩, fun q => by omega⟩, fun z => fr _⟩⟩
    · have fr := fresh
      have st := stay
      rw [cfst.2 q] at fr st
      refine ⟨fun z => by omega, fun _ => ⟨⟨by omega, by omega⟩, fun z => by omega, fun _ => ⟨hbd.1, ⟨by omega, by omega⟩, fun _ => fr _, fun r0 => ⟨⟨hv.1, c0, by omega⟩, fun z => ⟨fun q => by omega, fun _ => ⟨⟨c0, c3⟩, fun z2 => st r0 (bit.mp z) z2, fun z2 => fr _⟩, fun q => by omega⟩, fun z => fr _⟩⟩, fun z => by omega⟩, fun z => by omega⟩
