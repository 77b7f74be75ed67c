/-! ===== the law's composing, whole ===== -/
section
variable {d : Nat} {f : Int → qH → qM → Prop} {B Bo : pT} {ob : Prop} {Ro : c_R} {kp : Int} {TS : Int → Int} {Rq : Int → c_R} {at' wd : Int → Int}
theorem k_hd2_fr {t : Int} {M M' : qM} (h : k_hd2 B Rq at' wd t M) (f : ∀ (k : Nat) (s : Int), (k = 65 ∨ k = 66 ∨ k = 68 ∨ k = 70 ∨ (k = 76 ∧ (s = 8 ∨ s = 9))) → M' k 0 s = M k 0 s) : k_hd2 B Rq at' wd t M' := by
  obtain ⟨h1, h2, ⟨h3, h4⟩, h5, h6⟩ := h
  exact ⟨fun it w a b e g => by rw [f _ _ (by omega)]; exact h1 it w a b e g, fun s a b it w c e g i => by unfold k_nib; rw [f _ _ (by omega)]; exact h2 s a b it w c e g i, ⟨by rw [f _ _ (by omega)]; exact h3, by rw [f _ _ (by omega)]; exact h4⟩, fun it a b => by rw [f _ _ (by omega)]; exact h5 it a b, fun it a b r q => by rw [f _ _ (by omega), f _ _ (by omega)]; exact h6 it a b r q⟩
/-- the rounds up to round T -/
theorem k_to2 {h : qH} {u0 : Nat} {T : Int} {M : qM} (hu : k_h u0 h) (hB : c_ok B) (hB2 : c_ok2 B) (hl : k_lim B) (huq : k_uq B) (hE : k_env2 B Bo ob Ro kp TS M) (hH : k_hd2 B Rq at' wd 0 M) (hT : 0 ≤ T ∧ T < 12) (hch : c_chain B ob Bo Ro (c_p0 B) Rq T) (hgo : c_go B Rq T)
    (H : ∀ (u : Nat) h' M', (u : Int) = u0 + 66 * T → k_h u h' → k_fL M M' → k_env2 B Bo ob Ro kp TS M' → k_hd2 B Rq at' wd T M' → ∀ u19 u20 u21 u22 u23 : qV, b215_65 d h' f kp T u19 u20 u21 u22 u23 M') (u19 u20 u21 u22 u23 : qV) : b215_65 d h f kp 0 u19 u20 u21 u22 u23 M := by
  refine q_upto (P := fun t => 0 ≤ t → ∀ (u : Nat) (h1 : qH) (M1 : qM) (u19 u20 u21 u22 u23 : qV), (u : Int) = u0 + 66 * t → k_h u h1 → k_fL M M1 → k_env2 B Bo ob Ro kp TS M1 → k_hd2 B Rq at' wd t M1 → b215_65 d h1 f kp t u19 u20 u21 u22 u23 M1) (a := 0) (b := T) hT.1 (fun _ u h1 M1 u19 u20 u21 u22 u23 eu hu1 O1 E1 H1 => H u h1 M1 eu hu1 O1 E1 H1 _ _ _ _ _) (fun t t0 t1 ih _ u h1 M1 u19 u20 u21 u22 u23 eu hu1 O1 E1 H1 => ?_) (Int.le_refl _) u0 h M _ _ _ _ _ (by omega) hu (fun _ _ _ _ _ => rfl) hE hH
  refine k_one2 hu1 hB hB2 hl huq E1 H1 ⟨t0, by omega⟩ (Or.inl ⟨-1, hch t t0 t1, hgo t t0 t1, fun s a b => hgo s a (by omega), fun h2 M2 hu2 O2 E2 ed e69 e68 hist c89 v2 br2 b61 => ⟨fun q => by omega, fun _ _ _ u19 u20 u22 u23 => ?_, fun _ q => by omega⟩⟩) _ _ _ _ _
  refine k_520 hu2.1 hB hB2 hl E2.2.1 ⟨t0, by omega⟩ _ _ _ _ (fun M3 O3 e3 u19 u20 u21 u22 u23 => ?_)
  have fL3 : k_fL M2 M3 := fun k o s z1 z2 => O3 k o s (fun y => z2 (by omega))
  refine ih (by omega) (u + 66) h2 M3 _ _ _ _ _ (by omega) hu2 (k_fL_t (k_fL_t O1 O2) fL3) (k_env2_fr hl E2 fL3 (fun s => O3 _ _ _ (by omega)) (fun it a b => by rw [O3 _ _ _ (by omega)]; exact ⟨rfl, (E2.1.2.1 it a b).1⟩)) ⟨fun it w a b e g => ?_, fun s s0 s1 it w a b e g => ?_, ⟨by rw [O3 _ _ _ (by omega)]; exact c89.1, by rw [O3 _ _ _ (by omega)]; exact c89.2⟩, fun it a b => by rw [O3 _ _ _ (by omega)]; exact v2 it a b, fun it a b r q => by rw [O3 _ _ _ (by omega), O3 _ _ _ (by omega)]; exact br2 it a b r q⟩
  · have o1 := k_O_m hB a b
    have o0 := k_O_b hB hB2 hl it a (by omega)
    rw [e3 _ (by omega) (by omega)]
    exact e69 it w a b e g
  · unfold k_nib
    rw [O3 _ _ _ (by omega)]
    exact hist s s0 s1 it w a b e g
theorem L215 {h : qH} {u0 : Nat} {M : qM} (hu : k_h u0 h) (hB : c_ok B) (hB2 : c_ok2 B) (hl : k_lim B) (huq : k_uq B) (hbk : k_bk B M) (hold : (¬ ob ∧ kp = 0) ∨ (ob ∧ kp ≠ 0 ∧ k_om B Bo Ro M ∧ ∀ L E, c_oldok B L E Bo Ro)) (hv : k_v66 M) (hbr : k_brk B at' wd M)
    (H : (∃ W R res set' cnt, c_comp B ob Bo Ro (c_p0 B) at' wd W R res set' cnt ∧ ∀ h' M', k_h (u0 + 860) h' → k_fL M M' → k_env2 B Bo ob Ro kp (k_T M) M' → k_edm B R (c_p0 B) M' → k_e 68 B W M' → M' 76 0 8 = set' → M' 76 0 9 = cnt → k_v66 M' → k_brk B (fun _ => B 8 0) (fun y => B 6 y + W y) M' → (0 ≤ M' 76 0 6 ∧ M' 76 0 6 ≤ 61) → f res h' M') ∨ (∃ W, c_ncomp B ob Bo Ro (c_p0 B) W ∧ ∀ h' M', k_h (u0 + 860) h' → k_fL M M' → k_env2 B Bo ob Ro kp (k_T M) M' → k_v66 M' → k_brk B (fun _ => B 8 0) (fun y => B 6 y + W y) M' → (0 ≤ M' 76 0 6 ∧ M' 76 0 6 ≤ 61) → f (-1) h' M')) : e215 (d + 7) h kp M f := by
  have hS := hu.1
  have pb := c_p0_b hB
  have N48 := k_O_b hB hB2 hl 18 (by decide) (by decide)
  refine w215 hS (fun M1 f1 => ?_)
  -- how many words are ahead of each item
  refine q_upto (P := fun it => ∀ (M2 : qM) (u19 u20 u21 u22 u23 : qV), 0 ≤ it → (∀ (k : Nat) (o s : Int), ¬ (k = 67 ∧ o = 0) → M2 k o s = M k o s) → (∀ i, 0 ≤ i → i ≤ it → M2 67 0 i = k_O B i) → b215_7 d h f kp it u19 u20 u21 u22 u23 M2) (a := 0) (b := 18) (by decide) (fun M2 u19 u20 u21 u22 u23 _ O2 o2 => ?_) (fun it i0 i1 ih M2 u19 u20 u21 u22 u23 _ O2 o2 => ?_) M1 _ _ _ _ _ (Int.le_refl _) (fun k o s z => by rw [f1]; unfold qU; rw [if_neg (fun y => z ⟨y.1, y.2.1⟩)]) (fun i a b => by rw [show i = 0 by omega, f1, qU_s]; rfl)
  · refine w215_7 hS ⟨fun z => absurd z (by decide), fun _ M3 f3 M4 f4 => ?_⟩
    have O4 : ∀ (k : Nat) (o s : Int), ¬ (k = 67 ∧ o = 0) → ¬ (k = 76 ∧ o = 0 ∧ (s = 8 ∨ s = 9)) → M4 k o s = M k o s := fun k o s z1 z2 => by
      rw [f4]; unfold qU; rw [if_neg (fun y => z2 ⟨y.1, y.2.1, Or.inl y.2.2⟩), f3]; unfold qU; rw [if_neg (fun y => z2 ⟨y.1, y.2.1, Or.inr y.2.2⟩)]
      exact O2 k o s z1
    have v8 : M4 76 0 8 = 0 := by rw [f4, qU_s]
    have v9 : M4 76 0 9 = 0 := by rw [f4, qU_l (by decide), f3, qU_s]
    have fL4 : k_fL M M4 := fun k o s z1 z2 => O4 k o s (fun y => z2 (by omega)) (fun y => z2 (by omega))
    have bk4 : k_bk B M4 := k_bk_fr hbk (fun s => O4 _ _ _ (by omega) (by omega)) (fun it a b => by rw [O4 _ _ _ (by omega) (by omega)]; exact ⟨rfl, (hbk.2.1 it a b).1⟩) (fun s => O4 _ _ _ (by omega) (by omega)) (O4 _ _ _ (by omega) (by omega)) (O4 _ _ _ (by omega) (by omega)) (O4 _ _ _ (by omega) (by omega))
    have E4 : k_env2 B Bo ob Ro kp (k_T M) M4 := ⟨bk4, fun it a b => by
      rw [f4, qU_k (by decide), f3, qU_k (by decide)]; exact o2 it a b, (by
      rcases hold with q | q
      · exact Or.inl q
      · exact Or.inr ⟨q.1, q.2.1, k_om_fr hl q.2.2.1 (fun k s z => O4 _ _ _ (by omega) (by omega)) (fun it a b => by rw [O4 _ _ _ (by omega) (by omega)]), q.2.2.2⟩), fun it a b => by show M4 65 0 it % 65536 = M 65 0 it % 65536; rw [O4 _ _ _ (by omega) (by omega)]⟩
    refine L214v1 hS hB hB2 hl E4.1 E4.2.1 (fun M5 O5 e68 => ?_)
    have fL5 : k_fL M4 M5 := fun k o s z1 z2 => O5 k o s (fun y => z2 (by omega))
    have fL := k_fL_t fL4 fL5
    have E5 : k_env2 B Bo ob Ro kp (k_T M) M5 := k_env2_fr hl E4 fL5 (fun s => O5 _ _ _ (by omega)) (fun it a b => by rw [O5 _ _ _ (by omega)]; exact ⟨rfl, (bk4.2.1 it a b).1⟩)
    have hd5 : ∀ Rq, k_hd2 B Rq at' wd 0 M5 := fun Rq => by
      refine ⟨fun it w a b e g => ?_, fun s a b => by omega, ⟨by rw [O5 _ _ _ (by omega)]; exact v8, by rw [O5 _ _ _ (by omega)]; exact v9⟩, fun it a b => by rw [O5 _ _ _ (by omega), O4 _ _ _ (by omega) (by omega)]; exact hv it a b, fun it a b r q => ?_⟩
      · rw [e68 it w a b e g]
        unfold c_Wq
        rw [if_pos (Int.le_refl _)]
      · unfold c_at c_wd
        rw [if_pos (Int.le_refl _), if_pos (Int.le_refl _), O5 _ _ _ (by omega), O5 _ _ _ (by omega), O4 _ _ _ (by omega) (by omega), O4 _ _ _ (by omega) (by omega)]
        exact hbr it a b r q
    have vb : ∀ {Rq : Int → c_R} {n v : Int}, c_first B Rq (n - 1) v → v = -1 ∨ (0 ≤ v ∧ v < n) := fun {Rq n v} hf => by
      unfold c_first at hf
      rw [show n - 1 + 1 = n by omega] at hf
      rcases hf with hf | hf
      · exact Or.inl hf.1
      · exact Or.inr hf.1
    -- the last round, of the widest
    have last : ∀ (Rq : Int → c_R) (n v : Int) (u : Nat) (h6 : qH) (M6 : qM) (u5 u19 u22 u23 : qV), (1 ≤ n ∧ n ≤ 12) → (v = -1 ∨ (0 ≤ v ∧ v < n)) → (u : Int) ≤ u0 + 66 * n → k_h u h6 → k_fL M M6 → k_env2 B Bo ob Ro kp (k_T M) M6 → (∀ s, 0 ≤ s → s < n → k_hist B (c_Wq B Rq s) s M6) → M6 76 0 9 = c_cnt B at' wd Rq n → k_v66 M6 → k_brk B (c_at B at' n) (c_wd B wd Rq n) M6 → ((∃ R, c_out B (c_wide B Rq (if v < 0 then 0 else v) n) ob Bo Ro (c_p0 B) R ∧ ∀ h' M', k_h (u0 + 860) h' → k_fL M M' → k_env2 B Bo ob Ro kp (k_T M) M' → k_edm B R (c_p0 B) M' → k_e 68 B (c_wide B Rq (if v < 0 then 0 else v) n) M' → M' 76 0 8 = 1 → M' 76 0 9 = c_cnt B at' wd Rq n + p_sum (c_rg B (c_at B at' n) (c_wd B wd Rq n) (c_wide B Rq (if v < 0 then 0 else v) n)) 30 → k_v66 M' → k_brk B (fun _ => B 8 0) (fun y => B 6 y + c_wide B Rq (if v < 0 then 0 else v) n y) M' → (0 ≤ M' 76 0 6 ∧ M' 76 0 6 ≤ 61) → f (n + 1) h' M') ∨ (c_fail B (c_wide B Rq (if v < 0 then 0 else v) n) ob Bo Ro (c_p0 B) ∧ ∀ h' M', k_h (u0 + 860) h' → k_fL M M' → k_env2 B Bo ob Ro kp (k_T M) M' → k_v66 M' → k_brk B (fun _ => B 8 0) (fun y => B 6 y + c_wide B Rq (if v < 0 then 0 else v) n y) M' → (0 ≤ M' 76 0 6 ∧ M' 76 0 6 ≤ 61) → f (-1) h' M')) → b215_377 d h6 f u5 kp (n - 1) u19 (if v < 0 then 0 else v) 0 u22 u23 M6 := by
      intro Rq n v u h6 M6 u5 u19 u22 u23 hn hvv eu hu6 O6 E6 hist c9 v6 br6 K
      generalize hx : (if v < 0 then 0 else v) = x at *
      have hxb : 0 ≤ x ∧ x < n := by rw [← hx]; split <;> omega
      have cb := c_cnt_b (B := B) (at' := at') (wd := wd) (Rq := Rq) (show 0 ≤ n by omega)
      refine k_377 (Rq := Rq) hu6.1 hB hB2 hl E6.2.1 ⟨by omega, by omega⟩ ⟨hxb.1, by omega⟩ (fun s a b => hist s a (by omega)) _ _ _ _ (fun M7 O7 e7 M8 f8 => ?_)
      rw [show n - 1 + 1 = n by omega] at e7
      have O8 : ∀ (k : Nat) (o s : Int), ¬ (k = 68 ∧ o = 0) → ¬ (k = 76 ∧ o = 0 ∧ s = 8) → M8 k o s = M6 k o s := fun k o s z1 z2 => by rw [f8]; unfold qU; rw [if_neg z2]; exact O7 k o s z1
      have v88 : M8 76 0 8 = 1 := by rw [f8, qU_s]
      have fL8 : k_fL M6 M8 := fun k o s z1 z2 => O8 k o s (fun y => z2 (by omega)) (fun y => z2 (by omega))
      have E8 : k_env2 B Bo ob Ro kp (k_T M) M8 := k_env2_fr hl E6 fL8 (fun s => O8 _ _ _ (by omega) (by omega)) (fun it a b => by rw [O8 _ _ _ (by omega) (by omega)]; exact ⟨rfl, (E6.1.2.1 it a b).1⟩)
      have e8 : k_e 68 B (c_wide B Rq x n) M8 := fun it w a b e g => by rw [f8, qU_k (by decide)]; exact e7 it w a b e g
      refine L208 hu6 hB hB2 hl (k_W_w hB2 (by omega)) E8.1 E8.2.1 e8 (at' := c_at B at' n) (wd := c_wd B wd Rq n) (fun it a b r q => by rw [O8 _ _ _ (by omega) (by omega), O8 _ _ _ (by omega) (by omega)]; exact br6 it a b r q) (fun it a b => by rw [O8 _ _ _ (by omega) (by omega)]; exact v6 it a b) (by rw [O8 _ _ _ (by omega) (by omega), c9]; omega) E8.2.2.1 ?_
      rcases K with ⟨R, out, K⟩ | ⟨fail, K⟩
      · refine Or.inl ⟨R, out, fun h9 M9 hu9 O9 l65 ed bk9 br9 v9 c99 b61 => ⟨fun _ => ⟨by omega, by omega⟩, fun x hx => ?_⟩⟩
        rw [if_neg (by decide)] at hx
        rw [hx, show n - 1 + 2 = n + 1 by omega]
        have fL9 : k_fL M8 M9 := fun k o s z1 z2 => O9 k o s z1 (fun y => z2 (by omega))
        exact K h9 M9 (k_h_up hu9 (by omega)) (k_fL_t (k_fL_t O6 fL8) fL9) (k_env2_fr hl E8 fL9 (fun s => O9 _ _ _ (by omega) (by omega)) (fun it a b => ⟨l65 it a b, (bk9.2.1 it a b).1⟩)) ed (fun it w a b e g => by rw [O9 _ _ _ (by omega) (by omega)]; exact e8 it w a b e g) (by rw [O9 _ _ _ (by omega) (by omega)]; exact v88) (by rw [c99, O8 _ _ _ (by omega) (by omega), c9]) v9 br9 b61
      · refine Or.inr ⟨fail, fun h9 M9 hu9 O9 l65 bk9 br9 v9 b61 => ⟨fun z => absurd rfl z, fun x hx => ?_⟩⟩
        rw [if_pos rfl] at hx
        rw [hx]
        have fL9 : k_fL M8 M9 := fun k o s z1 z2 => O9 k o s z1 (fun y => z2 (by omega))
        exact K h9 M9 (k_h_up hu9 (by omega)) (k_fL_t (k_fL_t O6 fL8) fL9) (k_env2_fr hl E8 fL9 (fun s => O9 _ _ _ (by omega) (by omega)) (fun it a b => ⟨l65 it a b, (bk9.2.1 it a b).1⟩)) v9 br9 b61
    have atn : ∀ n : Int, 0 ≤ n → c_at B at' (n + 1) = fun _ => B 8 0 := fun n hn => by unfold c_at; rw [if_neg (by omega)]
    have wdn : ∀ (Rq : Int → c_R) (n : Int), 0 ≤ n → c_wd B wd Rq (n + 1) = fun y => B 6 y + c_Wq B Rq n y := fun Rq n hn => by unfold c_wd; rw [if_neg (by omega), show n + 1 - 1 = n by omega]
    rcases H with ⟨W, R, res, set', cnt, hc, H⟩ | ⟨W, hc, H⟩
    · rcases hc with ⟨Rq, r, hr, hch, hgo, hf, rfl, rfl, rfl, rfl, rfl⟩ | ⟨Rq, n, v, hn, hch, hgo, hf, hv1, hv2, rfl, out, rfl, rfl, rfl⟩
      · refine k_to2 hu hB hB2 hl huq E5 (hd5 Rq) (T := r) ⟨hr.1, hr.2⟩ (fun t a b => hch t a (by omega)) hgo (fun u h6 M6 eu hu6 O6 E6 H6 u19 u20 u21 u22 u23 => ?_) _ _ _ _ _
        exact k_one2 hu6 hB hB2 hl huq E6 H6 ⟨hr.1, hr.2⟩ (Or.inl ⟨r, hch r hr.1 (by omega), hf, hgo, fun h7 M7 hu7 O7 E7 ed e69 e68 hist c89 v7 br7 b61 => ⟨fun _ => H h7 M7 (k_h_up hu7 (by omega)) (k_fL_t (k_fL_t fL O6) O7) E7 ed e68 c89.1 c89.2 v7 (by rw [atn r hr.1, wdn Rq r hr.1] at br7; exact br7) b61, fun q => absurd rfl q, fun q => absurd rfl q⟩⟩) _ _ _ _ _
      · refine k_to2 hu hB hB2 hl huq E5 (hd5 Rq) (T := n - 1) ⟨by omega, by omega⟩ (fun t a b => hch t a (by omega)) hgo (fun u h6 M6 eu hu6 O6 E6 H6 u19 u20 u21 u22 u23 => ?_) _ _ _ _ _
        refine k_one2 hu6 hB hB2 hl huq E6 H6 ⟨by omega, by omega⟩ (Or.inl ⟨v, hch (n - 1) (by omega) (by omega), hf, hgo, fun h7 M7 hu7 O7 E7 ed e69 e68 hist c89 v7 br7 b61 => ⟨fun q => absurd q hv1, fun _ q q2 => by omega, fun _ _ u5 u19 u22 u23 => ?_⟩⟩) _ _ _ _ _
        rw [show n - 1 + 1 = n by omega] at hist c89 br7
        exact last Rq n v (u + 66) h7 M7 _ _ _ _ hn (vb hf) (by omega) hu7 (k_fL_t (k_fL_t fL O6) O7) E7 hist c89.2 v7 br7 (Or.inl ⟨R, out, fun h8 M8 hu8 O8 E8 ed8 e8 a1 a2 a3 a4 a5 => H h8 M8 hu8 O8 E8 ed8 e8 a1 a2 a3 a4 a5⟩)
    · rcases hc with ⟨Rq, r, hr, hch, hgo, hfl, rfl⟩ | ⟨Rq, n, v, hn, hch, hgo, hf, hv1, hv2, hfl, rfl⟩
      · refine k_to2 hu hB hB2 hl huq E5 (hd5 Rq) (T := r) ⟨hr.1, hr.2⟩ hch hgo (fun u h6 M6 eu hu6 O6 E6 H6 u19 u20 u21 u22 u23 => ?_) _ _ _ _ _
        exact k_one2 hu6 hB hB2 hl huq E6 H6 ⟨hr.1, hr.2⟩ (Or.inr ⟨hfl, fun h7 M7 hu7 O7 E7 v7 br7 b61 => H h7 M7 (k_h_up hu7 (by omega)) (k_fL_t (k_fL_t fL O6) O7) E7 v7 br7 b61⟩) _ _ _ _ _
      · refine k_to2 hu hB hB2 hl huq E5 (hd5 Rq) (T := n - 1) ⟨by omega, by omega⟩ (fun t a b => hch t a (by omega)) hgo (fun u h6 M6 eu hu6 O6 E6 H6 u19 u20 u21 u22 u23 => ?_) _ _ _ _ _
        refine k_one2 hu6 hB hB2 hl huq E6 H6 ⟨by omega, by omega⟩ (Or.inl ⟨v, hch (n - 1) (by omega) (by omega), hf, hgo, fun h7 M7 hu7 O7 E7 ed e69 e68 hist c89 v7 br7 b61 => ⟨fun q => absurd q hv1, fun _ q q2 => by omega, fun _ _ u5 u19 u22 u23 => ?_⟩⟩) _ _ _ _ _
        rw [show n - 1 + 1 = n by omega] at hist c89 br7
        exact last Rq n v (u + 66) h7 M7 _ _ _ _ hn (vb hf) (by omega) hu7 (k_fL_t (k_fL_t fL O6) O7) E7 hist c89.2 v7 br7 (Or.inr ⟨hfl, fun h8 M8 hu8 O8 E8 a1 a2 a3 => H h8 M8 hu8 O8 E8 a1 a2 a3⟩)
  · have bt := hbk.2.1 it i0 i1
    have os := k_O_s (B := B) i0
    have ob1 := k_O_b hB hB2 hl (it + 1) (by omega) (by omega)
    have ob0 := k_O_b hB hB2 hl it (by omega) (by omega)
    refine w215_7 hS ⟨fun _ => ⟨⟨by omega, by omega⟩, ⟨by omega, by omega⟩, L189 hS ⟨i0, i1⟩ ?_⟩, fun z => absurd i1 z⟩
    rw [O2 65 _ _ (by omega), bt.2.1, o2 it i0 (Int.le_refl _)]
    refine ⟨⟨by omega, by omega⟩, ⟨by omega, by omega⟩, fun M3 f3 => ⟨⟨by omega, by omega⟩, ?_⟩⟩
    refine ih M3 _ _ _ _ _ (by omega) (fun k o s z => by rw [f3]; unfold qU; rw [if_neg (fun y => z ⟨y.1, y.2.1⟩)]; exact O2 k o s z) (fun i a b => ?_)
    by_cases e : i = it + 1
    · subst e; rw [f3, qU_s, os]
    · rw [f3, qU_l (by omega)]; exact o2 i a (by omega)
end
