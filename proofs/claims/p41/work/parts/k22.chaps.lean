/-! ===== the chapters of the law's round ===== -/
section
variable {d : Nat} {f : Int → qH → qM → Prop} {B Bo : pT} {L C W : Int → Int} {E : Int → Int → Int} {ob : Prop} {Ro : c_R} {kp c : Int}
/-- a chapter without items -/
theorem k_zero {h : qH} (hS : qSe h) {M : qM} (hc : 0 ≤ c ∧ c < 3) (h77 : M 77 0 c = 0) (u2 u16 u17 u19 : qV)
    (H : ∀ M', (∀ (k : Nat) (o s : Int), ¬ (k = 76 ∧ o = 0 ∧ (s = 10 + c ∨ s = 13 + c ∨ s = 16 + c ∨ s = 19 + c ∨ s = 22 + c ∨ s = 25 + c)) → M' k o s = M k o s) → M' 76 0 (10 + c) = -1 → M' 76 0 (13 + c) = -1 → M' 76 0 (16 + c) = 0 → M' 76 0 (19 + c) = 0 → M' 76 0 (22 + c) = 0 → M' 76 0 (25 + c) = 0 → ∀ u2 u16 u17 u19 : qV, b208_140 d h f u2 kp u16 u17 (c + 1) u19 M') : b208_140 d h f u2 kp u16 u17 c u19 M := by
  have set : ∀ (q v : Int) (M : qM) (u2 u16 u17 : qV), (q = 10 ∨ q = 13 ∨ q = 16 ∨ q = 19 ∨ q = 22 ∨ q = 25) → (∀ M', M' = qU M 76 0 (q + c) (if q < 16 then -1 else 0) → b208_150 d h f u2 kp u16 u17 c (q + 3) M') → b208_150 d h f u2 kp u16 u17 c q M := fun q v M u2 u16 u17 hq H => w208_150 hS ⟨fun _ => ⟨⟨by omega, by omega⟩, fun x hx => ⟨⟨by omega, by omega⟩, fun M' f' => ⟨⟨by omega, by omega⟩, H M' (by rw [f', hx])⟩⟩⟩, fun z => absurd (show q < 28 by omega) z⟩
  refine w208_140 hS ⟨fun _ => set 10 0 _ _ _ _ (by decide) (fun M1 f1 => set 13 0 _ _ _ _ (by decide) (fun M2 f2 => set 16 0 _ _ _ _ (by decide) (fun M3 f3 => set 19 0 _ _ _ _ (by decide) (fun M4 f4 => set 22 0 _ _ _ _ (by decide) (fun M5 f5 => set 25 0 _ _ _ _ (by decide) (fun M6 f6 => ?_)))))), fun z => absurd hc.2 z⟩
  have O6 : ∀ (k : Nat) (o s : Int), ¬ (k = 76 ∧ o = 0 ∧ (s = 10 + c ∨ s = 13 + c ∨ s = 16 + c ∨ s = 19 + c ∨ s = 22 + c ∨ s = 25 + c)) → M6 k o s = M k o s := fun k o s z => by
    rw [f6]; unfold qU; rw [if_neg (fun y => z ⟨y.1, y.2.1, by omega⟩), f5]; unfold qU; rw [if_neg (fun y => z ⟨y.1, y.2.1, by omega⟩), f4]; unfold qU; rw [if_neg (fun y => z ⟨y.1, y.2.1, by omega⟩), f3]; unfold qU; rw [if_neg (fun y => z ⟨y.1, y.2.1, by omega⟩), f2]; unfold qU; rw [if_neg (fun y => z ⟨y.1, y.2.1, by omega⟩), f1]; unfold qU; rw [if_neg (fun y => z ⟨y.1, y.2.1, by omega⟩)]
  refine w208_150 hS ⟨fun z => absurd z (by decide), fun _ => ⟨hc, ?_⟩⟩
  rw [O6 77 _ _ (by omega), h77]
  refine ⟨fun _ => ⟨⟨by omega, by omega⟩, H M6 O6 ?_ ?_ ?_ ?_ ?_ ?_ _ _ _ _⟩, fun z => absurd rfl z⟩
  · rw [f6, qU_l (by omega), f5, qU_l (by omega), f4, qU_l (by omega), f3, qU_l (by omega), f2, qU_l (by omega), f1, qU_s]; rfl
  · rw [f6, qU_l (by omega), f5, qU_l (by omega), f4, qU_l (by omega), f3, qU_l (by omega), f2, qU_s]; rfl
  · rw [f6, qU_l (by omega), f5, qU_l (by omega), f4, qU_l (by omega), f3, qU_s]; rfl
  · rw [f6, qU_l (by omega), f5, qU_l (by omega), f4, qU_s]; rfl
  · rw [f6, qU_l (by omega), f5, qU_s]; rfl
  · rw [f6, qU_s]; rfl
end
section
variable {d : Nat} {f : Int → qH → qM → Prop} {B Bo : pT} {L C W : Int → Int} {E : Int → Int → Int} {ob : Prop} {Ro : c_R} {kp : Int}
/-- the chapters of a round -/
theorem k_140 {h : qH} {u0 : Nat} {n p0 : Int} {Wc : Int → c_W} {M : qM} (hB : c_ok B) (hB2 : c_ok2 B) (hl : k_lim B) (hL : c_lines B W L C E) (hW : k_W B W) (hu : k_h u0 h) (hbk : k_bk B M) (ho : k_off B M) (he : k_e 68 B W M)
    (hold : (¬ ob ∧ kp = 0) ∨ (ob ∧ kp ≠ 0 ∧ k_om B Bo Ro M ∧ c_oldok B L E Bo Ro)) (hp : p0 = c_p0 B) (h6 : M 76 0 6 = p0) (hkd : ∀ p, 1 ≤ p → p ≤ p0 → M 74 0 p = 3 ∧ M 75 0 p = 0)
    (hn : 0 ≤ n ∧ n ≤ 3) (hch : c_chs B L E ob Bo Ro p0 Wc n) (hfail : n < 3 → 0 < B 0 n ∧ g_none (p_T (c_A B L E n) (B 0 n) (B 8 1)) (c_keep B (c_A B L E n) ob Bo Ro n (c_fst B Wc p0 n)))
    (H1 : n = 3 → ∀ h' M', k_h (u0 + 66) h' → k_fR M M' → (∀ it, M' 65 0 it = M 65 0 it ∧ M' 66 0 it = M 66 0 it) → M' 76 0 9 = M 76 0 9 → (∀ c, 0 ≤ c → c < 3 → k_cm (c_A B L E c) (B 0 c) (Wc c) c M') → M' 76 0 6 = c_la Wc p0 3 → M' 76 0 6 ≤ 61 → k_kd B Wc p0 3 M' → f 1 h' M')
    (H0 : n < 3 → ∀ h' M', k_h (u0 + 66) h' → k_fR M M' → (∀ it, M' 65 0 it = M 65 0 it ∧ M' 66 0 it = M 66 0 it) → (0 ≤ M' 76 0 6 ∧ M' 76 0 6 ≤ 61) → f 0 h' M') (u2 u16 u17 u19 : qV) : b208_140 d h f u2 kp u16 u17 0 u19 M := by
  have bd := c_la_bd2 hB hL (by have := (k_p0_4 hB hB2 hl hL).1; omega) hn.2 hch
  have p4 := k_p0_4 hB hB2 hl hL
  rw [← hp] at p4
  have sr0 : ∀ c, 0 ≤ c → c < 3 → 0 < B 0 c → 0 ≤ p_SR (c_A B L E c) (B 0 c) := fun c a b q => by
    have ok := (k_szA hB hl hL ⟨a, b⟩).1.2.2.2.1
    have := p_SR_le ok.1 (i := 0) ⟨Int.le_refl _, by omega⟩
    have z : p_SR (c_A B L E c) 0 = 0 := rfl
    omega
  have N0 := k_N_b (B := B) (L := L) (E := E) (c := 0) (sr0 0 (by decide) (by decide))
  have N1 := k_N_b (B := B) (L := L) (E := E) (c := 1) (sr0 1 (by decide) (by decide))
  have N2 := k_N_b (B := B) (L := L) (E := E) (c := 2) (sr0 2 (by decide) (by decide))
  have laf : ∀ c, 0 ≤ c → 0 < B 0 c → c_fst B Wc p0 c = c_la Wc p0 c.toNat + c_la Wc p0 c.toNat % 2 + 1 := fun c _ q => by unfold c_fst; rw [if_neg (by omega)]; omega
  have la42 : ∀ c, 0 ≤ c → c < 3 → ∀ la, k_J B L E p0 c la → la + la % 2 ≤ 42 := fun c c0 c3 la J => by
    obtain ⟨j0, j1, j2, j3, j4⟩ := J
    rcases (show c = 0 ∨ c = 1 ∨ c = 2 by omega) with z | z | z
    · have := j1 z; omega
    · have := j2 z; omega
    · have := j3 z
      rcases p4.2 with q | q | q <;> omega
  have keep1 : ∀ N : qM, k_fR M N → (∀ it, N 65 0 it = M 65 0 it ∧ N 66 0 it = M 66 0 it) → k_bk B N ∧ k_off B N ∧ k_e 68 B W N ∧ ((¬ ob ∧ kp = 0) ∨ (ob ∧ kp ≠ 0 ∧ k_om B Bo Ro N ∧ c_oldok B L E Bo Ro)) := fun N O e65 => by
    refine ⟨k_bk_fr hbk (fun s => O _ _ _ (by omega) (by omega)) (fun it a b => by rw [(e65 it).1]; exact ⟨rfl, (hbk.2.1 it a b).1⟩) (fun s => O _ _ _ (by omega) (by omega)) (O _ _ _ (by omega) (by omega)) (O _ _ _ (by omega) (by omega)) (O _ _ _ (by omega) (by omega)), fun it a b => by rw [O _ _ _ (by omega) (by omega)]; exact ho it a b, fun it w a b e g => by rw [O _ _ _ (by omega) (by omega)]; exact he it w a b e g, ?_⟩
    rcases hold with hold | hold
    · exact Or.inl hold
    · exact Or.inr ⟨hold.1, hold.2.1, k_om_fr hl hold.2.2.1 (fun k s q => O _ _ _ (by omega) (by omega)) (fun it a b => by rw [(e65 it).1]), hold.2.2.2⟩
  have fin : ∀ (u : Nat) (h1 : qH) (M1 : qM) (u2 u16 u17 u19 : qV), (u : Int) = u0 + 22 * n → k_h u h1 → k_fR M M1 → (∀ it, M1 65 0 it = M 65 0 it ∧ M1 66 0 it = M 66 0 it) → M1 76 0 9 = M 76 0 9 → (∀ c', 0 ≤ c' → c' < n → k_cm (c_A B L E c') (B 0 c') (Wc c') c' M1) → M1 76 0 6 = c_la Wc p0 n.toNat → k_J B L E p0 n (c_la Wc p0 n.toNat) → k_kd B Wc p0 n M1 → b208_140 d h1 f u2 kp u16 u17 n u19 M1 := by
    intro u h1 M1 u2 u16 u17 u19 eu hu1 O1 e65 e9 cm e6 J kd
    by_cases q : n = 3
    · refine w208_140 hu1.1 ⟨fun z => absurd z (by omega), fun _ => ?_⟩
      subst q
      have e6' : M1 76 0 6 = c_la Wc p0 3 := e6
      have j3 := J.2.2.2.2 rfl
      refine H1 rfl h1 M1 (k_h_up hu1 (by omega)) O1 e65 e9 cm e6' ?_ kd
      rw [e6]
      rcases p4.2 with q | q | q <;> omega
    · obtain ⟨k1, k2, k3, k4⟩ := keep1 M1 O1 e65
      have hf := hfail (by omega)
      have bn := bd n.toNat (by omega)
      refine k_one (la := c_la Wc p0 n.toNat) hB hB2 hl hL ⟨hn.1, by omega⟩ hW hu1 k1 k2 k3 hf.1 e6 ⟨by omega, la42 n hn.1 (by omega) _ J⟩ k4 (fun h2 M2 P2 c2 _ _ _ made _ _ _ _ _ _ _ _ _ _ _ _ => ?_) (fun _ h2 M2 hu2 O2 b2 => ?_) _ _ _ _
      · exfalso
        rw [laf n hn.1 hf.1] at hf
        exact g_made_none c_keep_u made hf.2
      · exact H0 (by omega) h2 M2 (k_h_up hu2 (by omega)) (k_fR_t O1 (k_fc_R ⟨hn.1, by omega⟩ O2)) (fun it => by rw [O2 _ _ _ (by omega) (by omega), O2 _ _ _ (by omega) (by omega)]; exact e65 it) ⟨b2.1, by omega⟩
  have loop : ∀ (t : Nat) (c : Int) (u : Nat) (h1 : qH) (M1 : qM) (u2 u16 u17 u19 : qV), n - c ≤ t → (0 ≤ c ∧ c ≤ n) → (u : Int) = u0 + 22 * c → k_h u h1 → k_fR M M1 → (∀ it, M1 65 0 it = M 65 0 it ∧ M1 66 0 it = M 66 0 it) → M1 76 0 9 = M 76 0 9 → (∀ c', 0 ≤ c' → c' < c → k_cm (c_A B L E c') (B 0 c') (Wc c') c' M1) → M1 76 0 6 = c_la Wc p0 c.toNat → k_J B L E p0 c (c_la Wc p0 c.toNat) → k_kd B Wc p0 c M1 → b208_140 d h1 f u2 kp u16 u17 c u19 M1 := by
    intro t
    induction t with
    | zero =>
      intro c u h1 M1 u2 u16 u17 u19 ht hc eu hu1 O1 e65 e9 cm e6 J kd
      have e : c = n := by omega
      subst e
      exact fin u h1 M1 u2 u16 u17 u19 eu hu1 O1 e65 e9 cm e6 J kd
    | succ t ih =>
      intro c u h1 M1 u2 u16 u17 u19 ht hc eu hu1 O1 e65 e9 cm e6 J kd
      by_cases e : c = n
      · subst e
        exact fin u h1 M1 u2 u16 u17 u19 eu hu1 O1 e65 e9 cm e6 J kd
      have c3 : 0 ≤ c ∧ c < 3 := ⟨hc.1, by omega⟩
      obtain ⟨k1, k2, k3, k4⟩ := keep1 M1 O1 e65
      have bn := bd c.toNat (by omega)
      have st := c_la_st hB hL hn.2 hch c hc.1 (by omega)
      have mono : ∀ c', 0 ≤ c' → c' < c → c_la Wc p0 (c' + 1).toNat ≤ c_la Wc p0 c.toNat := fun c' a b => by
        have key : ∀ m : Nat, ((c' + 1 + m : Int) ≤ c) → c_la Wc p0 (c' + 1).toNat ≤ c_la Wc p0 (c' + 1 + m).toNat := by
          intro m
          induction m with
          | zero => intro _; rw [show (c' + 1 + ((0 : Nat) : Int)) = c' + 1 by omega]; exact Int.le_refl _
          | succ m ihm =>
            intro hm
            have i1 := ihm (by omega)
            have s := c_la_st hB hL hn.2 hch (c' + 1 + m) (by omega) (by omega)
            rw [show (c' + 1 + ((m + 1 : Nat) : Int)) = c' + 1 + m + 1 by omega]
            by_cases z : B 0 (c' + 1 + m) ≤ 0
            · rw [s.1 z]; exact i1
            · have := s.2 (by omega); omega
        have := key (c - c' - 1).toNat (by omega)
        rw [show (c' + 1 + (((c - c' - 1).toNat : Nat) : Int)) = c by omega] at this
        exact this
      have szc : ∀ c', 0 ≤ c' → c' < n → 0 < B 0 c' → p_okB (c_A B L E c') (B 0 c') ∧ p_SR (c_A B L E c') (B 0 c') ≤ 16 ∧ ∃ D, g_pages (p_T (c_A B L E c') (B 0 c') D) (w_P (Wc c')) (w_ct (Wc c')) (w_wr (Wc c')) := fun c' a b q => by
        have s := (k_szA hB hl hL (c := c') ⟨a, by omega⟩).1
        exact ⟨s.2.2.2.1, s.2.2.2.2, B 8 1, ((hch c' a b).1.2 q).2.2⟩
      by_cases N : B 0 c ≤ 0
      · have b0 := (hB.1 c c3.1 c3.2).1.1
        refine k_zero hu1.1 c3 (by rw [k1.1 c c3.1 c3.2]; omega) _ _ _ _ (fun M2 O2 x10 x13 x16 x19 x22 x25 u2 u16 u17 u19 => ?_)
        refine ih (c + 1) (u + 22) h1 M2 _ _ _ _ (by omega) ⟨by omega, by omega⟩ (by omega) (k_h_up hu1 (by omega)) (k_fR_t O1 (fun k o s z1 z2 => O2 k o s (fun y => z2 (by omega)))) (fun it => by rw [O2 _ _ _ (by omega), O2 _ _ _ (by omega)]; exact e65 it) (by rw [O2 _ _ _ (by omega)]; exact e9) (fun c' a b => ?_) (by rw [O2 _ _ _ (by omega), e6, st.1 N]) ?_ (fun p p1 p2 => ?_)
        · by_cases q : c' = c
          · subst q
            exact ⟨fun _ => ⟨x10, x13, x16, x19, x22, x25⟩, fun z => by omega⟩
          · exact k_cm_fr ⟨a, by omega⟩ (szc c' a (by omega)) (cm c' a (by omega)) (fun s _ _ => O2 _ _ _ (by omega)) (fun s _ _ => O2 _ _ _ (by omega)) (fun s _ _ => O2 _ _ _ (by omega)) (fun s hs => O2 _ _ _ (by omega)) (fun k p _ hk _ _ => O2 _ _ _ (by omega))
        · rw [st.1 N]
          have zN : k_N B L E c = 0 := by unfold k_N; rw [if_pos N]
          obtain ⟨j0, j1, j2, j3, j4⟩ := J
          refine ⟨j0, fun z => by omega, fun z => ?_, fun z => ?_, fun z => ?_⟩
          · have := j1 (by omega); omega
          · have := j2 (by omega); omega
          · have := j3 (by omega); omega
        · rw [st.1 N] at p2
          rw [O2 _ _ _ (by omega), O2 _ _ _ (by omega)]
          rcases kd p p1 p2 with z | ⟨c', z1, z2⟩ | ⟨z1, z2, z3⟩
          · exact Or.inl z
          · exact Or.inr (Or.inl ⟨c', by omega, z2⟩)
          · refine Or.inr (Or.inr ⟨z1, z2, fun c' a b q => ?_⟩)
            by_cases e : c' = c
            · rw [e] at q; omega
            · exact z3 c' a (by omega) q
      · have N' : 0 < B 0 c := by omega
        obtain ⟨s1, s2, s3, s4, s5⟩ := st.2 N'
        have mk := (hch c hc.1 (by omega)).1.2 N'
        refine k_one (la := c_la Wc p0 c.toNat) hB hB2 hl hL c3 hW hu1 k1 k2 k3 N' e6 ⟨by omega, la42 c c3.1 c3.2 _ J⟩ k4 (fun h2 M2 P2 c2 hu2 O2 f6 made2 pg2 f10 f13 f19 rw2 fz2 bl2 l2 u2 u16 u17 u19 => ?_) (fun none2 => ?_) _ _ _ _
        · have fe : c_la Wc p0 c.toNat + c_la Wc p0 c.toNat % 2 + 1 = w_fi (Wc c) := by omega
          rw [fe] at made2 f10
          obtain ⟨u1, u2', u3⟩ := g_made_u c_keep_u mk.2.1 made2
          subst u1
          rw [show c_la Wc p0 c.toNat + c_la Wc p0 c.toNat % 2 = w_fi (Wc c) - 1 by omega] at pg2
          refine ih (c + 1) (u + 22) h2 M2 _ _ _ _ (by omega) ⟨by omega, by omega⟩ (by omega) hu2 (k_fR_t O1 (k_fc_R c3 O2)) (fun it => by rw [O2 _ _ _ (by omega) (by omega), O2 _ _ _ (by omega) (by omega)]; exact e65 it) (by rw [O2 _ _ _ (by omega) (by omega)]; exact e9) (fun c' a b => ?_) (by rw [f6, s2]; omega) ?_ (fun p p1 p2 => ?_)
          · by_cases q : c' = c
            · rw [q]
              exact ⟨fun z => by omega, fun _ => ⟨f19, rw2, fz2, k_Pg_eq u2' pg2, f10, by omega, u3⟩⟩
            · refine k_cm_fr ⟨a, by omega⟩ (szc c' a (by omega)) (cm c' a (by omega)) (fun s _ _ => O2 _ _ _ (by omega) (by omega)) (fun s _ _ => O2 _ _ _ (by omega) (by omega)) (fun s _ _ => O2 _ _ _ (by omega) (by omega)) (fun s hs => O2 _ _ _ (by omega) (by omega)) (fun k p q2 hk p1 p2 => ?_)
              have mm := mono c' a (by omega)
              have s := (c_la_st hB hL hn.2 hch c' a (by omega)).2 q2
              exact O2 _ _ _ (by omega) (by omega)
          · have zN : w_ct (Wc c) ≤ k_N B L E c := by
              unfold k_N
              rw [if_neg N]
              split <;> omega
            rw [s2]
            obtain ⟨j0, j1, j2, j3, j4⟩ := J
            refine ⟨by omega, fun z => by omega, fun z => ?_, fun z => ?_, fun z => ?_⟩
            · have e0 : c = 0 := by omega
              have := j1 e0
              have zN0 : w_ct (Wc c) ≤ k_N B L E 0 := by rw [e0] at zN ⊢; exact zN
              have := p4.1.2.2
              omega
            · have e0 : c = 1 := by omega
              have := j2 e0
              have zN1 : w_ct (Wc c) ≤ k_N B L E 1 := by rw [e0] at zN ⊢; exact zN
              omega
            · have e0 : c = 2 := by omega
              have := j3 e0
              have zN2 : w_ct (Wc c) ≤ k_N B L E 2 := by rw [e0] at zN ⊢; exact zN
              omega
          · by_cases q : p ≤ c_la Wc p0 c.toNat
            · rw [O2 _ _ _ (by omega) (by omega), O2 _ _ _ (by omega) (by omega)]
              rcases kd p p1 q with z | ⟨c', z1, z2⟩ | ⟨z1, z2, z3⟩
              · exact Or.inl z
              · exact Or.inr (Or.inl ⟨c', by omega, z2⟩)
              · refine Or.inr (Or.inr ⟨z1, z2, fun c' a b q2 => ?_⟩)
                by_cases e : c' = c
                · rw [e]; omega
                · exact z3 c' a (by omega) q2
            · by_cases q2 : w_fi (Wc c) ≤ p
              · exact Or.inr (Or.inl ⟨c, ⟨hc.1, by omega⟩, N', q2, by omega⟩)
              · have pe : p = c_la Wc p0 c.toNat + 1 := by omega
                refine Or.inr (Or.inr ⟨by omega, by rw [pe]; exact bl2 (by omega), fun c' a b q3 => ?_⟩)
                by_cases e : c' = c
                · rw [e]; omega
                · have mm := mono c' a (by omega)
                  have s := (c_la_st hB hL hn.2 hch c' a (by omega)).2 q3
                  omega
        · exfalso
          rw [show c_la Wc p0 c.toNat + c_la Wc p0 c.toNat % 2 + 1 = w_fi (Wc c) by omega] at none2
          exact g_made_none c_keep_u mk.2.1 none2
  exact loop 3 0 u0 h M _ _ _ _ (by omega) ⟨Int.le_refl _, hn.1⟩ (by omega) hu (fun _ _ _ _ _ => rfl) (fun _ => ⟨rfl, rfl⟩) rfl (fun c' a b => by omega) (by rw [h6]; rfl) ⟨by show 0 ≤ p0; omega, fun _ => rfl, fun z => by omega, fun z => by omega, fun z => by omega⟩ (fun p p1 p2 => Or.inl ⟨p2, hkd p p1 p2⟩)
end
