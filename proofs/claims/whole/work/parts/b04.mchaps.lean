/-! ===== a round of the model: all its chapters ===== -/
theorem t204_176 {d : Nat} {h : qH} (hS : qSe h) {B Bo : pT} {L W0 C : Int → Int} {E : Int → Int → Int} {ob : Prop} {Ro : c_R} {b n p0 : Int} {W : Int → c_W} {M : qM} {f : Int → qM → Prop} (u2 u5 : qV)
    (hB : c_ok B) (hL : c_lines B W0 L C E) (hbk : m_bk B M) (hl : ∀ x, 0 ≤ x → x < 30 → x % 10 < B 0 (x / 10) → B 1 x = 0 → M 81 0 x = L x ∧ ∀ s, 0 ≤ s → s < L x → M 82 0 (20 * x + s) = E x s) (hb81 : ∀ k, 0 ≤ M 81 0 k ∧ M 81 0 k ≤ 1000) (h88 : ∀ s, -1000 ≤ M 88 0 s ∧ M 88 0 s ≤ 1000)
    (hold : (¬ ob ∧ b = 0) ∨ (ob ∧ b ≠ 0 ∧ m_om B Bo Ro M ∧ c_oldok B L E Bo Ro)) (hz : ∀ c, 0 ≤ c → c < 3 → M 114 0 c = -1 ∧ M 115 0 c = -1 ∧ M 87 0 c = 0 ∧ M 116 0 c = 0) (hp : 0 ≤ p0 ∧ p0 ≤ 100) (h58 : M 11 0 58 = p0) (hkd : ∀ p, 1 ≤ p → p ≤ p0 → M 105 0 p = 3)
    (hn : 0 ≤ n ∧ n ≤ 3) (hch : c_chs B L E ob Bo Ro p0 W n) (hfail : n < 3 → 0 < B 0 n ∧ g_none (p_T (c_A B L E n) (B 0 n) (B 8 1)) (c_keep B (c_A B L E n) ob Bo Ro n (c_fst B W p0 n)))
    (H1 : n = 3 → ∀ M', fr204c M M' → (∀ c, 0 ≤ c → c < 3 → m_cd (c_A B L E c) (B 0 c) (W c) c M') → M' 11 0 58 = c_la W p0 3 → m_kd B W p0 3 M' → (∀ s, -1000 ≤ M' 88 0 s ∧ M' 88 0 s ≤ 1000) → f 1 M')
    (H0 : n < 3 → ∀ M', fr204c M M' → (∀ s, -1000 ≤ M' 88 0 s ∧ M' 88 0 s ≤ 1000) → f 0 M') : b204_176 d h f b u2 1 0 u5 M := by
  have bd := c_la_bd2 hB hL hp.1 hn.2 hch
  have laf : ∀ c, 0 ≤ c → 0 < B 0 c → c_fst B W p0 c = c_la W p0 c.toNat + c_la W p0 c.toNat % 2 + 1 := fun c _ q => by unfold c_fst; rw [if_neg (by omega)]; omega
  have pgs : ∀ c, 0 ≤ c → c < n → 0 < B 0 c → ∃ D, g_pages (p_T (c_A B L E c) (B 0 c) D) (w_P (W c)) (w_ct (W c)) (w_wr (W c)) := fun c c0 c1 q => ⟨B 8 1, ((hch c c0 c1).1.2 q).2.2⟩
  have hla0 : ∀ (N : qM), fr204c M N → m_bk B N ∧ (∀ k, 0 ≤ N 81 0 k ∧ N 81 0 k ≤ 1000) ∧ (∀ x, 0 ≤ x → x < 30 → x % 10 < B 0 (x / 10) → B 1 x = 0 → N 81 0 x = L x ∧ ∀ s, 0 ≤ s → s < L x → N 82 0 (20 * x + s) = E x s) ∧ ((¬ ob ∧ b = 0) ∨ (ob ∧ b ≠ 0 ∧ m_om B Bo Ro N ∧ c_oldok B L E Bo Ro)) := fun N O => by
    refine ⟨m_bk_fr hbk (fun k s q => O _ _ _ (by omega)), fun k => by rw [O _ _ _ (by omega)]; exact hb81 k, fun x a b c q => ?_, ?_⟩
    · have := hl x a b c q
      exact ⟨by rw [O _ _ _ (by omega)]; exact this.1, fun s s0 s1 => by rw [O _ _ _ (by omega)]; exact this.2 s s0 s1⟩
    · rcases hold with hold | hold
      · exact Or.inl hold
      · exact Or.inr ⟨hold.1, hold.2.1, m_om_fr hold.2.2.1 (fun k s q => O _ _ _ (by omega)), hold.2.2.2⟩
  refine q_upto (P := fun c => 0 ≤ c → ∀ M1 u2 u5, fr204c M M1 → (∀ c', 0 ≤ c' → c' < c → m_cd (c_A B L E c') (B 0 c') (W c') c' M1) → (∀ c', c ≤ c' → c' < 3 → M1 114 0 c' = -1 ∧ M1 115 0 c' = -1 ∧ M1 87 0 c' = 0 ∧ M1 116 0 c' = 0) → M1 11 0 58 = c_la W p0 c.toNat → m_kd B W p0 c M1 → (∀ s, -1000 ≤ M1 88 0 s ∧ M1 88 0 s ≤ 1000) → b204_176 d h f b u2 1 c u5 M1) (a := 0) (b := n) hn.1 (fun _ M1 u2 u5 O1 hcd hz1 e58 kd1 b88 => ?_) (fun c c0 cn ih _ M1 u2 u5 O1 hcd hz1 e58 kd1 b88 => ?_) (Int.le_refl _) M u2 u5 (fun _ _ _ _ => rfl) (fun c' a b => by omega) (fun c' a b => hz c' a b) (by rw [h58]; rfl) (fun p p1 p2 => Or.inl ⟨p2, hkd p p1 p2⟩) h88
  · obtain ⟨k1, k2, k3, k4⟩ := hla0 M1 O1
    by_cases q : n = 3
    · refine w204_176 hS ⟨fun z => by omega, fun _ => ⟨Or.inr rfl, ?_⟩⟩
      rw [q] at hcd e58 kd1
      exact H1 q M1 O1 hcd e58 kd1 b88
    · have hf := hfail (by omega)
      have bn := bd n.toNat (by omega)
      refine t204_one hS u2 u5 hB hL (c := n) (la := c_la W p0 n.toNat) ⟨hn.1, by omega⟩ k1 k3 k2 b88 k4 e58 (by omega) hf.1 (fun M2 P2 c2 _ _ _ _ made _ _ _ _ _ _ _ => ?_) (fun _ M2 O2 b2 => ?_)
      · exfalso
        rw [laf n hn.1 hf.1] at hf
        exact g_made_none c_keep_u made hf.2
      · have done : ∀ u2 u5 c', b204_176 d h f b u2 0 c' u5 M2 := fun u2 u5 c' => by
          have z : f 0 M2 := H0 (by omega) M2 (fun k m s q => by rw [O2 k m s q, O1 k m s q]) b2
          exact w204_176 hS ⟨fun _ => ⟨fun _ => ⟨Or.inl rfl, z⟩, fun q => absurd rfl q⟩, fun _ => ⟨Or.inl rfl, z⟩⟩
        exact done _ _ _
  · obtain ⟨k1, k2, k3, k4⟩ := hla0 M1 O1
    have bn := bd c.toNat (by omega)
    have st := c_la_st hB hL hn.2 hch c c0 cn
    by_cases N0 : B 0 c ≤ 0
    · refine w204_176 hS ⟨fun _ => ⟨fun q => absurd q (by decide), fun _ => ⟨⟨c0, by omega⟩, fun _ => ⟨⟨by omega, by omega⟩, ?_⟩, fun q => absurd (by rw [k1.1 c c0 (by omega)]; exact N0) q⟩⟩, fun q => by omega⟩
      refine ih (by omega) M1 u2 u5 O1 (fun c' a b => ?_) (fun c' a b => hz1 c' (by omega) b) (by rw [e58, st.1 N0]) (fun p p1 p2 => ?_) b88
      · by_cases q : c' = c
        · rw [q]; exact ⟨fun _ => hz1 c (Int.le_refl _) (by omega), fun z => by omega⟩
        · exact hcd c' a (by omega)
      · rw [st.1 N0] at p2
        rcases kd1 p p1 p2 with z | ⟨c', z1, z2⟩ | ⟨z1, z2, z3⟩
        · exact Or.inl z
        · exact Or.inr (Or.inl ⟨c', by omega, z2⟩)
        · refine Or.inr (Or.inr ⟨z1, z2, fun c' a b q => ?_⟩)
          by_cases e : c' = c
          · rw [e] at q; omega
          · exact z3 c' a (by omega) q
    · have N1 : 0 < B 0 c := by omega
      obtain ⟨s1, s2, s3, s4, s5⟩ := st.2 N1
      have mk := (hch c c0 cn).1.2 N1
      have ok := c_okB hB hL ⟨c0, by omega⟩
      refine t204_one hS u2 u5 hB hL (c := c) (la := c_la W p0 c.toNat) ⟨c0, by omega⟩ k1 k3 k2 b88 k4 e58 (by omega) N1 (fun M2 P2 c2 O2 ag2 pg2 f58 made2 mpg2 f114 f115 R2 mw2 bl2 b2 => ?_) (fun none2 => ?_)
      · have fe : c_la W p0 c.toNat + c_la W p0 c.toNat % 2 + 1 = w_fi (W c) := by omega
        rw [fe] at made2 f114
        obtain ⟨u1, u2', u3⟩ := g_made_u c_keep_u mk.2.1 made2
        subst u1
        have fe2 : c_la W p0 c.toNat + c_la W p0 c.toNat % 2 = w_fi (W c) - 1 := by omega
        rw [fe2] at mpg2
        refine ih (by omega) M2 u2 u5 (fun k m s q => by rw [O2 k m s q, O1 k m s q]) (fun c' a b => ?_) (fun c' a b => ?_) (by rw [f58, s2]; omega) (fun p p1 p2 => ?_) b2
        · by_cases q : c' = c
          · rw [q]
            exact ⟨fun z => by omega, fun _ => ⟨R2, m_pg_eq u2' mpg2, f114, by omega, u3, mw2⟩⟩
          · refine m_cd_fr (pm := c_la W p0 c.toNat) (c_okB hB hL ⟨a, by omega⟩) (pgs c' a (by omega)) (hcd c' a (by omega)) (fun q2 => ?_) (ag2 c' q a (by omega))
            have mono : ∀ m : Nat, ((c' + 1 + m : Int) ≤ c) → c_la W p0 (c' + 1).toNat ≤ c_la W p0 (c' + 1 + m).toNat := by
              intro m
              induction m with
              | zero => intro _; rw [show (c' + 1 + ((0 : Nat) : Int)) = c' + 1 by omega]; exact Int.le_refl _
              | succ m ihm =>
                intro hm
                have i1 := ihm (by omega)
                have s := c_la_st hB hL hn.2 hch (c' + 1 + m) (by omega) (by omega)
                rw [show (c' + 1 + ((m + 1 : Nat) : Int)) = c' + 1 + m + 1 by omega]
                by_cases z : B 0 (c' + 1 + m) ≤ 0
                · rw [s.1 z]; exact i1
                · have := s.2 (by omega); omega
            have mm := mono (c - c' - 1).toNat (by omega)
            rw [show (c' + 1 + (((c - c' - 1).toNat : Nat) : Int)) = c by omega] at mm
            have s := (c_la_st hB hL hn.2 hch c' a (by omega)).2 q2
            omega
        · have a2 := ag2 c' (by omega) (by omega) b
          have z := hz1 c' (by omega) b
          rw [a2 _ _ (by omega), a2 _ _ (by omega), a2 _ _ (by omega), a2 _ _ (by omega)]
          exact z
        · by_cases q : p ≤ c_la W p0 c.toNat
          · rw [pg2 p q]
            rcases kd1 p p1 q with z | ⟨c', z1, z2⟩ | ⟨z1, z2, z3⟩
            · exact Or.inl z
            · exact Or.inr (Or.inl ⟨c', by omega, z2⟩)
            · refine Or.inr (Or.inr ⟨z1, z2, fun c' a b q2 => ?_⟩)
              by_cases e : c' = c
              · rw [e]; omega
              · exact z3 c' a (by omega) q2
          · by_cases q2 : w_fi (W c) ≤ p
            · have := (mpg2 (p - w_fi (W c)) (by omega) (by omega)).1.1
              rw [show w_fi (W c) - 1 + 1 + (p - w_fi (W c)) = p by omega] at this
              exact Or.inr (Or.inl ⟨c, ⟨c0, by omega⟩, N1, q2, by omega, this⟩)
            · have pe : p = c_la W p0 c.toNat + 1 := by omega
              refine Or.inr (Or.inr ⟨by omega, by rw [pe]; exact bl2 (by omega), fun c' a b q3 => ?_⟩)
              by_cases e : c' = c
              · rw [e]; omega
              · have mono : ∀ m : Nat, ((c' + 1 + m : Int) ≤ c) → c_la W p0 (c' + 1).toNat ≤ c_la W p0 (c' + 1 + m).toNat := by
                  intro m
                  induction m with
                  | zero => intro _; rw [show (c' + 1 + ((0 : Nat) : Int)) = c' + 1 by omega]; exact Int.le_refl _
                  | succ m ihm =>
                    intro hm
                    have i1 := ihm (by omega)
                    have s := c_la_st hB hL hn.2 hch (c' + 1 + m) (by omega) (by omega)
                    rw [show (c' + 1 + ((m + 1 : Nat) : Int)) = c' + 1 + m + 1 by omega]
                    by_cases z : B 0 (c' + 1 + m) ≤ 0
                    · rw [s.1 z]; exact i1
                    · have := s.2 (by omega); omega
                have mm := mono (c - c' - 1).toNat (by omega)
                rw [show (c' + 1 + (((c - c' - 1).toNat : Nat) : Int)) = c by omega] at mm
                have s := (c_la_st hB hL hn.2 hch c' a (by omega)).2 q3
                omega
      · exfalso
        rw [show c_la W p0 c.toNat + c_la W p0 c.toNat % 2 + 1 = w_fi (W c) by omega] at none2
        exact g_made_none c_keep_u mk.2.1 none2
