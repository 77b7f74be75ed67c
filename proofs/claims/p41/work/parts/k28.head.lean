/-! ===== one round of the law at the head ===== -/
def k_fL (M M' : qM) : Prop := ∀ (k : Nat) (o s : Int), ¬ (87 ≤ k ∧ k ≤ 97) → ¬ (o = 0 ∧ ((k = 76 ∧ (s = 6 ∨ s = 8 ∨ s = 9 ∨ (10 ≤ s ∧ s ≤ 27) ∨ (29 ≤ s ∧ s ≤ 32))) ∨ (65 ≤ k ∧ k ≤ 75))) → M' k o s = M k o s
theorem k_fL_t {M M1 M2 : qM} (h : k_fL M M1) (h' : k_fL M1 M2) : k_fL M M2 := fun k o s a b => by rw [h' k o s a b, h k o s a b]
/-- what stays in all rounds -/
def k_T (M : qM) : Int → Int := fun it => M 65 0 it % 65536
def k_env2 (B Bo : pT) (ob : Prop) (Ro : c_R) (kp : Int) (TS : Int → Int) (M : qM) : Prop := k_bk B M ∧ k_off B M ∧ ((¬ ob ∧ kp = 0) ∨ (ob ∧ kp ≠ 0 ∧ k_om B Bo Ro M ∧ ∀ L E, c_oldok B L E Bo Ro)) ∧ ∀ it, 0 ≤ it → it < 18 → k_T M it = TS it
theorem k_env2_fr {B Bo : pT} {ob : Prop} {Ro : c_R} {kp : Int} {TS : Int → Int} {M M' : qM} (hl : k_lim B) (h : k_env2 B Bo ob Ro kp TS M) (f : k_fL M M') (f67 : ∀ s, M' 67 0 s = M 67 0 s) (f65 : ∀ it, 0 ≤ it → it < 18 → M' 65 0 it % 65536 = M 65 0 it % 65536 ∧ 0 ≤ M' 65 0 it ∧ M' 65 0 it ≤ 2147483647) : k_env2 B Bo ob Ro kp TS M' := by
  obtain ⟨h1, h2, h3, h4⟩ := h
  refine ⟨k_bk_fr h1 (fun s => f _ _ _ (by omega) (by omega)) f65 (fun s => f _ _ _ (by omega) (by omega)) (f _ _ _ (by omega) (by omega)) (f _ _ _ (by omega) (by omega)) (f _ _ _ (by omega) (by omega)), fun it a b => by rw [f67]; exact h2 it a b, ?_, fun it a b => by show M' 65 0 it % 65536 = TS it; rw [(f65 it a b).1]; exact h4 it a b⟩
  rcases h3 with h3 | h3
  · exact Or.inl h3
  · exact Or.inr ⟨h3.1, h3.2.1, k_om_fr hl h3.2.2.1 (fun k s q => f _ _ _ (by omega) (by omega)) (fun it a b => by have := (f65 it a b).1; omega), h3.2.2.2⟩
def k_hd2 (B : pT) (Rq : Int → c_R) (at' wd : Int → Int) (t : Int) (M : qM) : Prop := k_e 68 B (c_Wq B Rq t) M ∧ (∀ s, 0 ≤ s → s < t → k_hist B (c_Wq B Rq s) s M) ∧ (M 76 0 8 = 0 ∧ M 76 0 9 = c_cnt B at' wd Rq t) ∧ k_v66 M ∧ k_brk B (c_at B at' t) (c_wd B wd Rq t) M
theorem k_hist_fr {B : pT} {W : Int → Int} {s : Int} {M M' : qM} (hB : c_ok B) (hB2 : c_ok2 B) (hl : k_lim B) (h : k_hist B W s M) (f : ∀ q, 4 * s ≤ q → q < 4 * s + 4 → M' 70 0 q = M 70 0 q) : k_hist B W s M' := fun it w a b e g => by
  have N48 := k_O_b hB hB2 hl 18 (by decide) (by decide)
  have o1 := k_O_m hB a b
  have o0 := k_O_b hB hB2 hl it a (by omega)
  unfold k_nib
  rw [f _ (by omega) (by omega)]
  exact h it w a b e g
/-- histories against what was found -/
theorem k_hist_eq {B : pT} {W W' : Int → Int} {s : Int} {M : qM} (hB : c_ok B) (hB2 : c_ok2 B) (hl : k_lim B) (h0 : ∀ y, b_ch (c_K B) y = 0 → W y = W' y) (h : k_hist B W s M) (he : k_e 69 B W' M) : (∀ i, 0 ≤ i → i < k_O B 18 → k_nib M s i = M 69 0 i) ↔ c_eqW B W W' :=
  k_eqW_of (k := 68) (k' := 69) (M := fun _ _ i => k_nib M s i) (M2 := M) hB hB2 hl h0 h he
section
variable {d : Nat} {f : Int → qH → qM → Prop} {B Bo : pT} {ob : Prop} {Ro : c_R} {kp : Int} {TS : Int → Int} {Rq : Int → c_R} {at' wd : Int → Int}
theorem k_one2 {h : qH} {u0 : Nat} {t : Int} {M : qM} (hu : k_h u0 h) (hB : c_ok B) (hB2 : c_ok2 B) (hl : k_lim B) (huq : k_uq B) (hE : k_env2 B Bo ob Ro kp TS M) (hH : k_hd2 B Rq at' wd t M) (ht : 0 ≤ t ∧ t < 12)
    (H : (∃ v, c_out B (c_Wq B Rq t) ob Bo Ro (c_p0 B) (Rq t) ∧ c_first B Rq t v ∧ c_go B Rq t ∧ ∀ h' M', k_h (u0 + 66) h' → k_fL M M' → k_env2 B Bo ob Ro kp TS M' → k_edm B (Rq t) (c_p0 B) M' → k_e 69 B (c_Wq B Rq (t + 1)) M' → k_e 68 B (c_Wq B Rq t) M' → (∀ s, 0 ≤ s → s < t + 1 → k_hist B (c_Wq B Rq s) s M') → (M' 76 0 8 = 0 ∧ M' 76 0 9 = c_cnt B at' wd Rq (t + 1)) → k_v66 M' → k_brk B (c_at B at' (t + 1)) (c_wd B wd Rq (t + 1)) M' → (0 ≤ M' 76 0 6 ∧ M' 76 0 6 ≤ 61) → (v = t → f (t + 1) h' M') ∧ (v ≠ t → v = -1 → t + 1 < 12 → ∀ u19 u20 u22 u23 : qV, b215_520 d h' f kp t u19 u20 0 u22 u23 M') ∧ (v ≠ t → (v ≠ -1 ∨ t + 1 = 12) → ∀ u5 u19 u22 u23 : qV, b215_377 d h' f u5 kp t u19 (if v < 0 then 0 else v) 0 u22 u23 M')) ∨ (c_fail B (c_Wq B Rq t) ob Bo Ro (c_p0 B) ∧ ∀ h' M', k_h (u0 + 66) h' → k_fL M M' → k_env2 B Bo ob Ro kp TS M' → k_v66 M' → k_brk B (fun _ => B 8 0) (fun y => B 6 y + c_Wq B Rq t y) M' → (0 ≤ M' 76 0 6 ∧ M' 76 0 6 ≤ 61) → f (-1) h' M')) (u19 u20 u21 u22 u23 : qV) : b215_65 d h f kp t u19 u20 u21 u22 u23 M := by
  obtain ⟨hbk, ho, hold⟩ := id hE
  obtain ⟨he, hh, ⟨h8, h9⟩, hv, hbr⟩ := hH
  have pb := c_p0_b hB
  have cb := c_cnt_b (B := B) (at' := at') (wd := wd) (Rq := Rq) ht.1
  have Wt := k_W_q (Rq := Rq) (t := t) hB2
  refine w215_65 hu.1 ⟨fun _ => k_store hu.1 hB hB2 hl Wt ho he ht (fun M1 O1 hist1 u20 u21 u22 u23 => w215_75 hu.1 ⟨fun z => absurd z (by decide), fun _ => ?_⟩) _ _ _ _, fun z => absurd ht.2 z⟩
  have fL1 : k_fL M M1 := fun k o s z1 z2 => O1 k o s (fun y => z2 (by omega))
  have bt1 := fun it (a : 0 ≤ it) (b : it < 18) => (hbk.2.1 it a b).1
  have E1 : k_env2 B Bo ob Ro kp TS M1 := k_env2_fr hl hE fL1 (fun s => O1 _ _ _ (by omega)) (fun it a b => by rw [O1 _ _ _ (by omega)]; exact ⟨rfl, bt1 it a b⟩)
  have hist : ∀ N : qM, (∀ q, 0 ≤ q → q < 48 → N 70 0 q = M1 70 0 q) → ∀ s, 0 ≤ s → s < t + 1 → k_hist B (c_Wq B Rq s) s N := fun N e s s0 s1 => by
    by_cases z : s = t
    · rw [z]; exact k_hist_fr hB hB2 hl hist1 (fun q a b => e q (by omega) (by omega))
    · exact k_hist_fr hB hB2 hl (hh s s0 (by omega)) (fun q a b => by rw [e q (by omega) (by omega), O1 _ _ _ (by omega)])
  have e1 : k_e 68 B (c_Wq B Rq t) M1 := fun it w a b e g => by rw [O1 _ _ _ (by omega)]; exact he it w a b e g
  have br1 : k_brk B (c_at B at' t) (c_wd B wd Rq t) M1 := fun it a b r q => by rw [O1 _ _ _ (by omega), O1 _ _ _ (by omega)]; exact hbr it a b r q
  have v1 : k_v66 M1 := fun it a b => by rw [O1 _ _ _ (by omega)]; exact hv it a b
  have h91 : M1 76 0 9 = c_cnt B at' wd Rq t := by rw [O1 _ _ _ (by omega)]; exact h9
  have at1 : c_at B at' (t + 1) = fun _ => B 8 0 := by unfold c_at; rw [if_neg (by omega)]
  have wd1 : c_wd B wd Rq (t + 1) = fun y => B 6 y + c_Wq B Rq t y := by unfold c_wd; rw [if_neg (by omega), show t + 1 - 1 = t by omega]
  refine L208 hu hB hB2 hl Wt E1.1 E1.2.1 e1 br1 v1 (by rw [h91]; omega) E1.2.2.1 ?_
  rcases H with ⟨v, out, fv, go, H⟩ | ⟨fail, H⟩
  · refine Or.inl ⟨Rq t, out, fun h2 M2 hu2 O2 l65 ed bk2 br2 v2 c9 b61 => ⟨fun z => absurd z (by decide), fun _ => ?_⟩⟩
    have fL2 : k_fL M1 M2 := fun k o s z1 z2 => O2 k o s z1 (fun y => z2 (by omega))
    have E2 : k_env2 B Bo ob Ro kp TS M2 := k_env2_fr hl E1 fL2 (fun s => O2 _ _ _ (by omega) (by omega)) (fun it a b => ⟨l65 it a b, (bk2.2.1 it a b).1⟩)
    refine L214 hu2.1 hB hB2 hl E2.1 E2.2.1 huq ⟨pb.2.2.1, by omega⟩ out ed.1 (fun M3 O3 e69 => ?_)
    have fL3 : k_fL M2 M3 := fun k o s z1 z2 => O3 k o s (fun y => z2 (by omega))
    have E3 : k_env2 B Bo ob Ro kp TS M3 := k_env2_fr hl E2 fL3 (fun s => O3 _ _ _ (by omega)) (fun it a b => by rw [O3 _ _ _ (by omega)]; exact ⟨rfl, (bk2.2.1 it a b).1⟩)
    have fL03 := k_fL_t (k_fL_t fL1 fL2) fL3
    have wq : c_Wq B Rq (t + 1) = c_W1 B (Rq t) := by unfold c_Wq; rw [if_neg (by omega), show t + 1 - 1 = t by omega]
    have e69' : k_e 69 B (c_Wq B Rq (t + 1)) M3 := by rw [wq]; exact e69
    have e68 : k_e 68 B (c_Wq B Rq t) M3 := fun it w a b e g => by rw [O3 _ _ _ (by omega), O2 _ _ _ (by omega) (by omega)]; exact e1 it w a b e g
    have ed3 : k_edm B (Rq t) (c_p0 B) M3 := ⟨k_here_fr hB hl out ed.1 (fun k s q => O3 _ _ _ (by omega)), by rw [O3 _ _ _ (by omega)]; exact ed.2.1, fun p p1 p2 => by rw [O3 _ _ _ (by omega), O3 _ _ _ (by omega)]; exact ed.2.2 p p1 p2⟩
    have hist3 := hist M3 (fun q a b => by rw [O3 _ _ _ (by omega), O2 _ _ _ (by omega) (by omega)])
    have c93 : M3 76 0 9 = c_cnt B at' wd Rq (t + 1) := by
      have ec : c_cnt B at' wd Rq (t + 1) = c_cnt B at' wd Rq t + p_sum (c_rg B (c_at B at' t) (c_wd B wd Rq t) (c_Wq B Rq t)) 30 := p_sum_s ht.1
      rw [O3 _ _ _ (by omega), c9, ec, h91]
    have h83 : M3 76 0 8 = 0 := by rw [O3 _ _ _ (by omega), O2 _ _ _ (by omega) (by omega), O1 _ _ _ (by omega)]; exact h8
    have br3 : k_brk B (c_at B at' (t + 1)) (c_wd B wd Rq (t + 1)) M3 := by
      rw [at1, wd1]
      exact fun it a b r q => by rw [O3 _ _ _ (by omega), O3 _ _ _ (by omega)]; exact br2 it a b r q
    have v3 : k_v66 M3 := fun it a b => by rw [O3 _ _ _ (by omega)]; exact v2 it a b
    have go3 := H h2 M3 hu2 fL03 E3 ed3 e69' e68 hist3 ⟨h83, c93⟩ v3 br3 (by rw [O3 _ _ _ (by omega)]; exact b61)
    have z0 : ∀ s, ∀ y, b_ch (c_K B) y = 0 → c_Wq B Rq s y = c_Wq B Rq (t + 1) y := fun s y q => by rw [(c_Wq_b y).2 q, (c_Wq_b y).2 q]
    have eqS : ∀ s, 0 ≤ s → s < t + 1 → ((∀ i, 0 ≤ i → i < k_O B 18 → k_nib M3 s i = M3 69 0 i) ↔ c_eqW B (c_Wq B Rq s) (c_Wq B Rq (t + 1))) := fun s s0 s1 => k_hist_eq hB hB2 hl (z0 s) (hist3 s s0 s1) e69'
    have eqT := k_eqW_of hB hB2 hl (z0 t) e68 e69'
    -- the first that took
    have fv' : (v = -1 ∧ ∀ s, 0 ≤ s → s < t + 1 → ¬ c_eqW B (c_Wq B Rq s) (c_Wq B Rq (t + 1))) ∨ ((0 ≤ v ∧ v < t + 1) ∧ c_eqW B (c_Wq B Rq v) (c_Wq B Rq (t + 1)) ∧ ∀ s, 0 ≤ s → s < v → ¬ c_eqW B (c_Wq B Rq s) (c_Wq B Rq (t + 1))) := fv
    have vt : c_eqW B (c_Wq B Rq t) (c_Wq B Rq (t + 1)) → v = t := fun q => by
      rcases fv' with ⟨a, b⟩ | ⟨a, b, c⟩
      · exact absurd q (b t ht.1 (by omega))
      · refine Classical.byContradiction fun z => ?_
        have g := go (t - 1) (by omega) (by omega)
        unfold c_first at g
        rw [show t - 1 + 1 = t by omega] at g
        rcases g with ⟨_, g⟩ | ⟨g, _⟩
        · exact g v a.1 (by omega) (fun y y0 y1 hc => by rw [b y y0 y1 hc]; exact (q y y0 y1 hc).symm)
        · omega
    refine k_215 hu2.1 hB hB2 hl E3.2.1 _ _ _ (fun eq => ⟨⟨by omega, by omega⟩, go3.1 (vt (eqT.mp eq))⟩) (fun neq u19 x hx => ⟨⟨by omega, by omega⟩, ?_⟩)
    have nt : v ≠ t := fun z => neq (eqT.mpr (by
      rcases fv' with ⟨a, b⟩ | ⟨a, b, c⟩
      · omega
      · rw [← z] at *; exact b))
    have hb8 : ∀ i, 0 ≤ i → i < k_O B 18 → 0 ≤ M3 69 0 i ∧ M3 69 0 i ≤ 8 := fun i a b => k_e_b hB hB2 (k_W_q hB2) e69' ⟨a, b⟩
    refine k_283 hu2.1 hB hB2 hl E3.2.1 ht (r0 := x) (by rw [hx]; split <;> omega) hb8 (fun ring u19 u22 u23 hr => ?_) _ _ _
    have ringv : (ring = x ∧ v = -1) ∨ ((0 ≤ ring ∧ ring < t) ∧ v = ring) := by
      rcases hr with ⟨a, b⟩ | ⟨a, b, c⟩
      · left
        refine ⟨a, ?_⟩
        rcases fv' with ⟨p, _⟩ | ⟨p, q, _⟩
        · exact p
        · exact absurd ((eqS v p.1 p.2).mpr q) (b v p.1 (by omega))
      · right
        refine ⟨a, ?_⟩
        have qr := (eqS ring a.1 (by omega)).mp b
        rcases fv' with ⟨_, p⟩ | ⟨p, q, s⟩
        · exact absurd qr (p ring a.1 (by omega))
        · rcases Int.lt_trichotomy v ring with l | l | l
          · exact absurd ((eqS v p.1 p.2).mpr q) (c v p.1 l)
          · exact l
          · exact absurd qr (s ring a.1 l)
    refine w215_283 hu2.1 ⟨fun _ => ⟨fun neg => ?_, fun pos => ?_⟩, fun z => absurd (by decide) z⟩
    · rcases ringv with ⟨a, b⟩ | ⟨a, b⟩
      · have t11 : t ≠ 11 := fun z => by rw [if_pos z] at hx; omega
        exact go3.2.1 nt b (by omega) _ _ _ _
      · omega
    · rcases ringv with ⟨a, b⟩ | ⟨a, b⟩
      · have t11 : t = 11 := Classical.byContradiction fun z => by rw [if_neg z] at hx; omega
        rw [if_pos t11] at hx
        have g := go3.2.2 nt (Or.inr (by omega))
        rw [if_pos (by omega)] at g
        rw [a, hx]
        exact g _ _ _ _
      · have g := go3.2.2 nt (Or.inl (by omega))
        rw [if_neg (by omega), b] at g
        exact g _ _ _ _
  · refine Or.inr ⟨fail, fun h2 M2 hu2 O2 l65 bk2 br2 v2 b61 => ⟨fun _ => ?_, fun z => absurd rfl z⟩⟩
    have fL2 : k_fL M1 M2 := fun k o s z1 z2 => O2 k o s z1 (fun y => z2 (by omega))
    exact H h2 M2 hu2 (k_fL_t fL1 fL2) (k_env2_fr hl E1 fL2 (fun s => O2 _ _ _ (by omega) (by omega)) (fun it a b => ⟨l65 it a b, (bk2.2.1 it a b).1⟩)) v2 br2 b61
end
