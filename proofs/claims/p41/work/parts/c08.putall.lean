/-! ===== Margins.putAll ===== -/
noncomputable def c_mgn (B : pT) (R : c_R) (c : Int) (k : Nat) : c_Mg := mg_pages (B 8 1) B (r_A B R c) (p_T (r_A B R c) (B 0 c) (B 8 1)) (w_P (r_W R c)) (w_fi (r_W R c)) c k
theorem c_mgn_ok {B : pT} {W : Int → Int} {ob : Prop} {Bo : pT} {Ro R : c_R} {p0 c : Int} (hB : c_ok B) (h : c_out B W ob Bo Ro p0 R) (hc : 0 ≤ c ∧ c < 3) (hN : 0 < B 0 c) : ∀ k : Nat, (k : Int) ≤ w_wr (r_W R c) → mg_ok B c (mg_ct B c (p_xs (r_A B R c) c (g_bf (w_P (r_W R c)) 0 k))) (c_mgn B R c k)
  | 0, _ => by
    have z : g_bf (w_P (r_W R c)) 0 ((0 : Nat) : Int) = 0 := by unfold g_bf; rw [if_pos (by omega)]
    rw [z]
    have e : p_xs (r_A B R c) c 0 = 200 * c := by unfold p_xs; rw [if_pos (Int.le_refl _)]; omega
    have e2 : mg_ct B c (200 * c) = 0 := by unfold mg_ct; omega
    rw [e, e2]
    exact ⟨⟨Int.le_refl _, show (0 : Int) ≤ 14 by decide⟩, ⟨Int.le_refl _, Int.le_refl _⟩, fun i a b => by have : i < 0 := b; omega⟩
  | k + 1, hk => by
    have ih := c_mgn_ok hB h hc hN k (by omega)
    have hD := hB.2.2.2.2.2.2.2.1
    have ok := c_okB hB h.1 hc
    have pg := ((h.2 c hc.1 hc.2).1.2 hN).2.2
    have up := g_pages_up pg k (by omega) (by have := pg.1; omega)
    have a1 := (pg.2.2.2.2.1 k (by omega) (by have := pg.1; omega)).1
    have ov := mg_over_ok (pg := w_fi (r_W R c) + k) hB hD ih (mg_n (c_mgn B R c k)).toNat (by have := ih.2.1; omega)
    have n0 := ih.2.1
    have r := mg_rows_ok (pl := mg_pl (p_T (r_A B R c) (B 0 c) (B 8 1)) (w_P (r_W R c)) k) (pg := w_fi (r_W R c) + k) (L := r_L R) (E := r_E R) (a := g_bf (w_P (r_W R c)) 0 k) hB hD hc.1 ok.1 a1.1 (w_P (r_W R c) 0 k - g_bf (w_P (r_W R c)) 0 k).toNat (by have e : p_T (c_A B (r_L R) (r_E R) c) (B 0 c) (B 8 1) 8 0 = p_SR (c_A B (r_L R) (r_E R) c) (B 0 c) := rfl; omega) (mg_ok_N ov (by have := ov.2.1; have e : mg_ct B c (p_xs (c_A B (r_L R) (r_E R) c) c (g_bf (w_P (r_W R c)) 0 k)) = mg_ct B c (p_xs (r_A B R c) c (g_bf (w_P (r_W R c)) 0 k)) := rfl; omega))
    have e1 : g_bf (w_P (r_W R c)) 0 ((k + 1 : Nat) : Int) = w_P (r_W R c) 0 k := by rw [show ((k + 1 : Nat) : Int) = (k : Int) + 1 by omega]; exact g_bf_s (by omega)
    rw [e1]
    rw [show g_bf (w_P (r_W R c)) 0 (k : Int) + (((w_P (r_W R c) 0 k - g_bf (w_P (r_W R c)) 0 k).toNat : Nat) : Int) = w_P (r_W R c) 0 k by omega] at r
    exact r
def fr52a (M M' : qM) : Prop := ∀ (k : Nat) (m s : Int), ¬ (m = 0 ∧ (k = 38 ∨ k = 39 ∨ (k = 6 ∧ 2 ≤ s ∧ s ≤ 5))) → M' k m s = M k m s
theorem t52 {d : Nat} {h : qH} (hS : qSe h) {B : pT} {W : Int → Int} {ob : Prop} {Bo : pT} {Ro R : c_R} {p0 e : Int} {M : qM} {F : qM → Prop} (hB : c_ok B) (hp : 0 ≤ p0 ∧ p0 ≤ 100) (hM : c_bk B M) (he : 0 ≤ e) (hout : c_out B W ob Bo Ro p0 R) (hch : ∀ c, 0 ≤ c → c < 3 → c_ch (r_A B R c) (B 0 c) (r_W R c) c e M) (hd : M 3 e 1 = B 8 1)
    (H : ∀ M', fr52a M M' → (∀ c, 0 ≤ c → c < 3 → ∀ y, 200 * c ≤ y → y < 200 * c + 200 → M' 38 0 y = mg_p (c_mgn B R c (w_wr (r_W R c)).toNat) y) → F M') : e52 (d + 4) h e M F := by
  have hD := hB.2.2.2.2.2.2.2.1
  refine w52 hS (t267 (len := 600) (x := (0, 0, 0)) rfl ⟨by decide, by decide⟩ (fun M1 O1 v1 M2 f2 => ?_))
  have O2 : ∀ (k : Nat) (m s : Int), ¬ (m = 0 ∧ ((k = 38 ∧ 0 ≤ s ∧ s < 600) ∨ (k = 6 ∧ s = 4))) → M2 k m s = M k m s := fun k m s q => by rw [f2]; unfold qU; rw [if_neg (by omega)]; exact O1 k m s (by omega)
  have v38 : ∀ y, 0 ≤ y → y < 600 → M2 38 0 y = -1 := fun y a b => by rw [f2, qU_k (by decide)]; exact v1 y a b
  have v4 : M2 6 0 4 = B 8 1 := by rw [f2, qU_s, O1 _ _ _ (by omega)]; exact hd
  have bkN : ∀ N, fr52a M N → c_bk B N := fun N O => ⟨fun c a b => by rw [O _ _ _ (by omega)]; exact hM.1 c a b, fun x a b => by rw [O _ _ _ (by omega), O _ _ _ (by omega), O _ _ _ (by omega), O _ _ _ (by omega)]; exact hM.2.1 x a b, fun y a b => by rw [O _ _ _ (by omega), O _ _ _ (by omega), O _ _ _ (by omega)]; exact hM.2.2 y a b⟩
  refine q_upto (P := fun c => 0 ≤ c → ∀ N u4, fr52a M N → N 6 0 4 = B 8 1 → (∀ c', 0 ≤ c' → c' < c → ∀ y, 200 * c' ≤ y → y < 200 * c' + 200 → N 38 0 y = mg_p (c_mgn B R c' (w_wr (r_W R c')).toNat) y) → (∀ y, 200 * c ≤ y → y < 600 → N 38 0 y = -1) → b52_18 d h F e c u4 N) (a := 0) (b := 3) (by decide) (fun _ N u4 O w4 dn rs => w52_18 hS ⟨fun q => absurd q (by decide), fun _ => H N O dn⟩) (fun c c0 c3 ih _ N u4 O w4 dn rs => ?_) (Int.le_refl _) M2 _ (fun k m s q => O2 k m s (by omega)) v4 (fun c' a b => by omega) (fun y a b => v38 y (by omega) b)
  refine w52_18 hS ⟨fun _ N1 f1 => ?_, fun q => absurd c3 q⟩
  have ON : ∀ (k : Nat) (m s : Int), ¬ (k = 6 ∧ m = 0 ∧ s = 2) → N1 k m s = N k m s := fun k m s q => by rw [f1]; unfold qU; rw [if_neg q]
  have fb := c_fi_bd hB hp hout ⟨c0, c3⟩
  have chN : ∀ N2, fr52a M N2 → c_ch (r_A B R c) (B 0 c) (r_W R c) c e N2 := fun N2 O => c_ch_fr (hch c c0 c3) (fun k s q => O _ _ _ (by omega)) (fun k s q => O _ _ _ (by omega))
  have mk := (hout.2 c c0 c3).1
  refine q_upto (P := fun k => 0 ≤ k → ∀ N2, fr52a M N2 → fr52 c N1 N2 → N2 6 0 4 = B 8 1 → (∀ y, 200 * c ≤ y → y < 200 * c + 200 → N2 38 0 y = mg_p (c_mgn B R c k.toNat) y) → (∀ i, 0 ≤ i → i < mg_n (c_mgn B R c k.toNat) → N2 39 0 i = mg_o (c_mgn B R c k.toNat) i) → N2 6 0 2 = mg_n (c_mgn B R c k.toNat) → b52_31 d h F e c k N2) (a := 0) (b := w_wr (r_W R c)) fb.2.2.1 (fun _ N2 O3 O4 w4' wp wo wn => ?_) (fun k k0 k1 ihk _ N2 O3 O4 w4' wp wo wn => ?_) (Int.le_refl _) N1 (fun k m s q => by rw [ON k m s (by omega)]; exact O k m s q) (fun _ _ _ _ => rfl) (by rw [ON _ _ _ (by omega)]; exact w4) (fun y a b => by rw [ON _ _ _ (by omega)]; exact rs y a (by omega)) (fun i a b => by have : i < 0 := b; omega) (by rw [f1, qU_s]; rfl)
  · have ch := chN N2 O3
    refine w52_31 hS ⟨⟨c0, c3⟩, fun q => by rw [ch.2.2.2.1] at q; omega, fun _ => ⟨⟨by omega, by omega⟩, ih (by omega) N2 _ O3 w4' (fun c' a b y y0 y1 => ?_) (fun y a b => ?_)⟩⟩
    · by_cases q : c' = c
      · rw [q] at y0 y1 ⊢; exact wp y y0 y1
      · rw [O4 _ _ _ (by omega), ON _ _ _ (by omega)]; exact dn c' a (by omega) y y0 y1
    · rw [O4 _ _ _ (by omega), ON _ _ _ (by omega)]; exact rs y (by omega) b
  · have ch := chN N2 O3
    have N0 : 0 < B 0 c := Classical.byContradiction fun z => by have := (mk.1 (by omega)).2.2.1; omega
    have ok := c_okB hB hout.1 ⟨c0, c3⟩
    have pgs := (mk.2 N0).2.2
    have mok := c_mgn_ok hB hout ⟨c0, c3⟩ N0 k.toNat (by omega)
    rw [show ((k.toNat : Nat) : Int) = k by omega] at mok
    have c60 := mg_ct_60 hB ⟨c0, c3⟩
    have a1 := (pgs.2.2.2.2.1 k k0 (by have := pgs.1; omega)).1
    have xe : p_xs (r_A B R c) c (g_bf (w_P (r_W R c)) 0 k) ≤ 200 * (c + 1) ∧ 0 ≤ p_xs (r_A B R c) c (g_bf (w_P (r_W R c)) 0 k) := by
      by_cases q : g_bf (w_P (r_W R c)) 0 k < p_SR (r_A B R c) (B 0 c)
      · have g := p_xs_gap (c := c) ok.1 (r := g_bf (w_P (r_W R c)) 0 k) ⟨a1.1, q⟩
        have r := p_row_in ok.1 (r := g_bf (w_P (r_W R c)) 0 k) ⟨a1.1, q⟩
        have n10 := ok.1.1
        have e : p_xs (r_A B R c) c (g_bf (w_P (r_W R c)) 0 k) = p_xs (c_A B (r_L R) (r_E R) c) c (g_bf (w_P (r_W R c)) 0 k) := rfl
        omega
      · have e : g_bf (w_P (r_W R c)) 0 k = p_SR (r_A B R c) (B 0 c) := by
          have e8 : p_T (c_A B (r_L R) (r_E R) c) (B 0 c) (B 8 1) 8 0 = p_SR (r_A B R c) (B 0 c) := rfl
          omega
        rw [e]
        have := p_xs_end (c := c) ok.1 c0
        have e2 : p_xs (r_A B R c) c (p_SR (r_A B R c) (B 0 c)) = p_xs (c_A B (r_L R) (r_E R) c) c (p_SR (c_A B (r_L R) (r_E R) c) (B 0 c)) := rfl
        omega
    have cm := mg_ct_mono (B := B) (c := c) xe.2 xe.1
    refine w52_31 hS ⟨⟨c0, c3⟩, fun _ => ⟨⟨c0, c3⟩, ?_⟩, fun q => by rw [ch.2.2.2.1] at q; omega⟩
    rw [ch.2.2.1]
    refine ⟨⟨by omega, by omega⟩, fun N3 f3 N4 f4 => ⟨⟨c0, c3⟩, ?_⟩⟩
    have O34 : ∀ (k : Nat) (m s : Int), ¬ (k = 6 ∧ m = 0 ∧ (s = 3 ∨ s = 5)) → N4 k m s = N2 k m s := fun k m s q => by rw [f4, f3]; unfold qU; rw [if_neg (by omega), if_neg (by omega)]
    have frN4 : fr52a M N4 := fun k m s q => by rw [O34 k m s (by omega)]; exact O3 k m s q
    refine t53 hS (pg := w_fi (r_W R c) + k) (s := c_mgn B R c k.toNat) hB (bkN N4 frN4) ⟨c0, c3⟩ hD ⟨by omega, by omega⟩ mok (by omega) (fun y a b => by rw [O34 _ _ _ (by omega)]; exact wp y a b) (fun i a b => by rw [O34 _ _ _ (by omega)]; exact wo i a b) (by rw [O34 _ _ _ (by omega)]; exact wn) (by rw [f4, qU_s]) (by rw [O34 _ _ _ (by omega)]; exact w4') (by rw [f4, qU_l (by decide), f3, qU_s]) (fun N5 O5 sc5 => ?_)
    have frN5 : fr52a M N5 := fun k m s q => by rw [O5 k m s (by omega)]; exact frN4 k m s q
    have ov := mg_over_ok (pg := w_fi (r_W R c) + k) hB hD mok (mg_n (c_mgn B R c k.toNat)).toNat (by have := mok.2.1; omega)
    refine ⟨⟨c0, c3⟩, ⟨c0, c3⟩, ⟨c0, c3⟩, t54 hS (L := r_L R) (E := r_E R) (D := B 8 1) (w := r_W R c) (pg := w_fi (r_W R c) + k) hB (bkN N5 frN5) ⟨c0, c3⟩ he ok hD pgs (chN N5 frN5) ⟨k0, k1⟩ sc5 (mg_ok_N ov (by have := ov.2.1; have := mok.2.1; have e : mg_ct B c (p_xs (c_A B (r_L R) (r_E R) c) c (g_bf (w_P (r_W R c)) 0 k)) = mg_ct B c (p_xs (r_A B R c) c (g_bf (w_P (r_W R c)) 0 k)) := rfl; omega)) hD ⟨by omega, by omega⟩ (fun N6 O6 sc6 => ⟨⟨by omega, by omega⟩, ?_⟩)⟩
    have nx : c_mgn B R c (k + 1).toNat = mg_rows (B 8 1) (w_fi (r_W R c) + k) B (c_A B (r_L R) (r_E R) c) c (g_bf (w_P (r_W R c)) 0 k) (mg_pl (p_T (c_A B (r_L R) (r_E R) c) (B 0 c) (B 8 1)) (w_P (r_W R c)) k) (w_P (r_W R c) 0 k - g_bf (w_P (r_W R c)) 0 k).toNat (mg_over (B 8 1) (w_fi (r_W R c) + k) (B 5) (mg_o (c_mgn B R c k.toNat)) (mg_n (c_mgn B R c k.toNat)).toNat (mg_begin (c_mgn B R c k.toNat))) := by
      rw [show (k + 1).toNat = k.toNat + 1 by omega]
      show mg_rows (B 8 1) (w_fi (r_W R c) + (k.toNat : Int)) B (c_A B (r_L R) (r_E R) c) c (g_bf (w_P (r_W R c)) 0 (k.toNat : Int)) (mg_pl (p_T (c_A B (r_L R) (r_E R) c) (B 0 c) (B 8 1)) (w_P (r_W R c)) (k.toNat : Int)) (w_P (r_W R c) 0 (k.toNat : Int) - g_bf (w_P (r_W R c)) 0 (k.toNat : Int)).toNat (mg_over (B 8 1) (w_fi (r_W R c) + (k.toNat : Int)) (B 5) (mg_o (c_mgn B R c k.toNat)) (mg_n (c_mgn B R c k.toNat)).toNat (mg_begin (c_mgn B R c k.toNat))) = _
      rw [show ((k.toNat : Nat) : Int) = k by omega]
    obtain ⟨z1, z2, z3, z4, z5, z6⟩ := sc6
    refine ihk (by omega) N6 (fun k m s q => by rw [O6 k m s (by omega)]; exact frN5 k m s q) (fun k m s q => by rw [O6 k m s (by omega), O5 k m s (by omega), O34 k m s (by omega)]; exact O4 k m s q) z5 (fun y a b => by rw [nx]; exact z1 y a b) (fun i a b => by rw [nx] at b ⊢; exact z2 i a b) (by rw [nx]; exact z3)
