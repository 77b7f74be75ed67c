/-! ===== Margins.putPage, putAll ===== -/
theorem g_bf_at {P : pT} {c n k : Int} {M : qM} (hP : g_cP P c n M) (hk : 0 ≤ k ∧ k ≤ c) : (if k ≤ 0 then 0 else M 43 n (k - 1)) = g_bf P 0 k ∧ (if k ≤ 0 then 0 else M 44 n (k - 1)) = g_bf P 1 k ∧ (if k ≤ 0 then 0 else M 45 n (k - 1)) = g_bf P 2 k := by
  unfold g_bf
  by_cases q : k ≤ 0
  · rw [if_pos q, if_pos q, if_pos q, if_pos q, if_pos q, if_pos q]; exact ⟨rfl, rfl, rfl⟩
  · have h := hP.2 (k - 1) (by omega) (by omega)
    rw [if_neg q, if_neg q, if_neg q, if_neg q, if_neg q, if_neg q, h.1, h.2.1, h.2.2.1]; exact ⟨rfl, rfl, rfl⟩
theorem t54 {d : Nat} {h : qH} (hS : qSe h) {B : pT} {L : Int → Int} {E : Int → Int → Int} {c e k dp pg D : Int} {w : c_W} {s : c_Mg} {M : qM} {F : qM → Prop} (hB : c_ok B) (hM : c_bk B M) (hc : 0 ≤ c ∧ c < 3) (he : 0 ≤ e) (hA : p_okB (c_A B L E c) (B 0 c)) (hD : 8 ≤ D ∧ D ≤ 14) (hg : g_pages (p_T (c_A B L E c) (B 0 c) D) (w_P w) (w_ct w) (w_wr w)) (ch : c_ch (c_A B L E c) (B 0 c) w c e M) (hk : 0 ≤ k ∧ k < w_wr w) (hs : mg_C c dp pg s M) (hok : mg_ok B c (mg_ct B c (p_xs (c_A B L E c) c (g_bf (w_P w) 0 k))) s) (hdp : 8 ≤ dp ∧ dp ≤ 14) (hpg : 0 ≤ pg ∧ pg ≤ 1000)
    (H : ∀ M', fr52 c M M' → mg_C c dp pg (mg_rows dp pg B (c_A B L E c) c (g_bf (w_P w) 0 k) (mg_pl (p_T (c_A B L E c) (B 0 c) D) (w_P w) k) (w_P w 0 k - g_bf (w_P w) 0 k).toNat s) M' → F M') : e54 (d + 3) h c c (1 + 3 * e + c) (0 + 3 * e + c) k M F := by
  have hT := p_T_tab (D := D) hA hD
  have e80 : p_T (c_A B L E c) (B 0 c) D 8 0 = p_SR (c_A B L E c) (B 0 c) := rfl
  have t67 := hA.2.2
  have hg1 := hg.1
  have up := g_pages_up hg k hk.1 (by omega)
  have at' := hg.2.2.2.2.1 k hk.1 (by omega)
  have at1 := at'.1
  have p3 := g_pages_3 hT hg hk
  have bm := g_bf_at ch.2.1 (k := k) ⟨hk.1, by omega⟩
  have hcT := p_T_c (D := D) hA ch.1
  have hP := ch.2.1.2 k hk.1 (by omega)
  have F4 := hT.2.2.1
  generalize hA' : c_A B L E c = A at *
  generalize hTT : p_T A (B 0 c) D = T at *
  generalize hPP : w_P w = P at *
  have t0 : ∀ r, T 0 r = p_bl A r := fun r => by rw [← hTT]; rfl
  have blb : ∀ r, 0 ≤ r → 0 ≤ T 0 r ∧ T 0 r ≤ r := fun r r0 => by rw [t0]; exact p_bl_bd r0
  have bls : ∀ r, 0 ≤ r → T 0 r ≤ T 0 (r + 1) ∧ T 0 (r + 1) ≤ T 0 r + 1 := fun r r0 => by
    rw [t0, t0]
    have s := p_sum_s (g := p_ib A) r0
    have e : p_bl A (r + 1) = p_bl A r + p_ib A r := s
    have : 0 ≤ p_ib A r ∧ p_ib A r ≤ 1 := by unfold p_ib; split <;> (try split) <;> omega
    omega
  have blm : ∀ r, g_bf P 0 k ≤ r → T 0 (g_bf P 0 k + 1) ≤ T 0 (r + 1) := fun r r0 => by
    refine q_upto (P := fun x => g_bf P 0 k ≤ x → T 0 (g_bf P 0 k + 1) ≤ T 0 (x + 1) → T 0 (g_bf P 0 k + 1) ≤ T 0 (r + 1)) r0 (fun _ q => q) (fun x x0 x1 ih _ q => ih (by omega) (by have := bls (x + 1) (by omega); omega)) (Int.le_refl _) (Int.le_refl _)
  have hib : ∀ x, 0 ≤ x → x ≤ T 8 2 → 0 ≤ M 61 (1 + 3 * e + c) x ∧ M 61 (1 + 3 * e + c) x ≤ 9 * x := fun x x0 x1 => by
    refine ch.1.2.1.2.2.2.2.1 x x0 ?_
    have : p_FB A (B 0 c) 0 = p_SF A (B 0 c) := by unfold p_FB p_PF; rw [p_sum_0]; omega
    rw [this]
    have e82 : T 8 2 = p_SF A (B 0 c) := by rw [← hTT]; rfl
    omega
  have bb : 0 ≤ mg_base T P k ∧ mg_base T P k ≤ 100 := by
    unfold mg_base
    by_cases q : P 1 k ≤ g_bf P 1 k
    · rw [if_pos q]; omega
    · rw [if_neg q]
      have f0 := at'.2.1
      have a1 := hib (g_bf P 1 k) f0.1 (by omega)
      have a2 := hib (g_bf P 1 k + 1) (by omega) (by omega)
      have b1 := hcT.2.2.2.2.1 (g_bf P 1 k) f0.1 (by omega)
      have b2 := hcT.2.2.2.2.1 (g_bf P 1 k + 1) (by omega) (by omega)
      rw [b1] at a1
      rw [b2] at a2
      have m4 := hT.2.2.2.2.2.2.2.2.1 (g_bf P 1 k) (g_bf P 1 k + 1) f0.1 (by omega) (by omega)
      omega
  have bkN : ∀ N, fr52 c M N → c_bk B N := fun N O => c_bk_fr52 hM O
  -- the rows
  have rows : ∀ (M1 : qM) (u7 u11 u12 : qV), fr52 c M M1 → mg_C c dp pg s M1 → b54_57 d h F c c (1 + 3 * e + c) (0 + 3 * e + c) k (g_bf P 0 k) u7 (mg_base T P k) (P 3 k) (g_bf P 0 k) u11 u12 M1 := by
    intro M1 u7 u11 u12 O1 sc1
    have z1 : mg_pre T P k (g_bf P 0 k) = mg_base T P k := by
      unfold mg_pre mg_bl mg_min
      rw [if_pos rfl]
      split <;> omega
    have z2 : P 3 k - mg_bl T P k (g_bf P 0 k) = P 3 k := by unfold mg_bl; rw [if_pos rfl]; omega
    have main : ∀ (j : Int), g_bf P 0 k ≤ j → j ≤ P 0 k → True := fun _ _ _ => trivial
    have go := q_upto (P := fun r => g_bf P 0 k ≤ r → ∀ N u11 u12, fr52 c M N → mg_C c dp pg (mg_rows dp pg B A c (g_bf P 0 k) (mg_pl T P k) (r - g_bf P 0 k).toNat s) N → b54_57 d h F c c (1 + 3 * e + c) (0 + 3 * e + c) k (g_bf P 0 k) u7 (mg_pre T P k r) (P 3 k - mg_bl T P k r) r u11 u12 N) (a := g_bf P 0 k) (b := P 0 k) (by omega) (fun _ N u11 u12 O sc => w54_57 hS ⟨⟨hk.1, by omega⟩, fun q => by rw [O _ _ _ (by omega), hP.1] at q; omega, fun _ => H N O sc⟩) (fun r r0 r1 ih _ N u11 u12 O sc => ?_) (Int.le_refl _) M1 u11 u12 O1 (by rw [show (g_bf P 0 k - g_bf P 0 k).toNat = 0 by omega]; exact sc1)
    · rw [z1, z2] at go; exact go
    · have rr : 0 ≤ r ∧ r < p_SR A (B 0 c) := ⟨by omega, by omega⟩
      have row := ch.1.1.2.1 r rr.1 rr.2
      have ri := p_row_in hA.1 rr
      have tw := fun w => c_A_there (B := B) (L := L) (E := E) (w := w) (by rw [hA']; exact hA.1) hc.1 (by rw [hA']; exact rr)
      rw [hA'] at tw
      have plb : 0 ≤ mg_pl T P k r ∧ mg_pl T P k r ≤ 900 := by
        have b1 := blm r r0
        have b2 := blb (r + 1) (by omega)
        have b3 := blb (g_bf P 0 k + 1) (by omega)
        have e67 : P 0 k ≤ 67 := by omega
        unfold mg_pl mg_min
        split <;> omega
      have gapr := p_xs_gap (c := c) hA.1 rr
      have okr : mg_ok B c (mg_ct B c (p_xs A c r)) (mg_rows dp pg B A c (g_bf P 0 k) (mg_pl T P k) (r - g_bf P 0 k).toNat s) := by
        have := mg_rows_ok (pl := mg_pl T P k) (pg := pg) (a := g_bf P 0 k) hB hdp hc.1 (by rw [hA']; exact hA.1) at1.1 (r - g_bf P 0 k).toNat (by rw [hA']; omega) (by rw [hA']; exact hok)
        rw [hA', show g_bf P 0 k + (((r - g_bf P 0 k).toNat : Nat) : Int) = r by omega] at this
        exact this
      -- the words of the row
      have words : ∀ (N1 : qM) (u11 u12 : qV), fr52 c M N1 → mg_C c dp pg (mg_rows dp pg B A c (g_bf P 0 k) (mg_pl T P k) (r - g_bf P 0 k).toNat s) N1 → b54_104 d h F c c (1 + 3 * e + c) (0 + 3 * e + c) k (g_bf P 0 k) u7 (mg_pl T P k r) (P 3 k - mg_bl T P k (r + 1)) r u11 u12 N1 := by
        intro N1 u11 u12 O2 sc2
        refine w54_104 hS ⟨⟨rr.1, by omega⟩, ?_⟩
        rw [O2 48 _ _ (by omega), row.1, O2 49 _ _ (by omega), row.2.1]
        refine ⟨by have := hA.1.1; omega, ⟨rr.1, by omega⟩, ?_⟩
        generalize hs1 : mg_rows dp pg B A c (g_bf P 0 k) (mg_pl T P k) (r - g_bf P 0 k).toNat s = s1 at *
        refine q_upto (P := fun y => p_fr A r ≤ y → ∀ N2, fr52 c M N2 → mg_C c dp pg (mg_ws dp pg B (200 * c + 20 * p_ri A r + p_fr A r) (mg_pl T P k r) (y - p_fr A r).toNat s1) N2 → b54_127 d h F c c (1 + 3 * e + c) (0 + 3 * e + c) k (g_bf P 0 k) u7 (mg_pl T P k r) (P 3 k - mg_bl T P k (r + 1)) r (1 + 10 * c + p_ri A r) y N2) (a := p_fr A r) (b := p_to A r) (by omega) (fun _ N2 O3 sc3 => ?_) (fun y y0 y1 ihy _ N2 O3 sc3 => ?_) (Int.le_refl _) N1 O2 (by rw [show (p_fr A r - p_fr A r).toNat = 0 by omega]; exact sc2)
        · refine w54_127 hS ⟨⟨rr.1, by omega⟩, fun q => by rw [O3 50 _ _ (by omega), row.2.2.1] at q; omega, fun _ => ⟨⟨by omega, by omega⟩, ⟨by omega, by omega⟩, ?_⟩⟩
          have := ih (by omega) N2 (.inr (.inl (some (5, 1 + 10 * c + p_ri A r)))) (.inl (p_to A r)) O3
          rw [mg_pre_s r0] at this
          refine this ?_
          rw [show (r + 1 - g_bf P 0 k).toNat = (r - g_bf P 0 k).toNat + 1 by omega]
          show mg_C c dp pg (mg_ws dp pg B (200 * c + 20 * p_ri A (g_bf P 0 k + ((r - g_bf P 0 k).toNat : Int)) + p_fr A (g_bf P 0 k + ((r - g_bf P 0 k).toNat : Int))) (mg_pl T P k (g_bf P 0 k + ((r - g_bf P 0 k).toNat : Int))) (p_to A (g_bf P 0 k + ((r - g_bf P 0 k).toNat : Int)) - p_fr A (g_bf P 0 k + ((r - g_bf P 0 k).toNat : Int))).toNat (mg_rows dp pg B A c (g_bf P 0 k) (mg_pl T P k) (r - g_bf P 0 k).toNat s)) N2
          rw [show g_bf P 0 k + (((r - g_bf P 0 k).toNat : Nat) : Int) = r by omega, hs1]
          exact sc3
        · have ty := tw y ⟨y0, y1⟩
          have bk := (bkN N2 O3).2.2 (200 * c + 20 * p_ri A r + y) (by omega) (by omega)
          rw [show (200 * c + 20 * p_ri A r + y) / 20 = 10 * c + p_ri A r by omega, show (200 * c + 20 * p_ri A r + y) % 20 = y by omega] at bk
          have okw := mg_ws_ok (w := mg_pl T P k r) (pg := pg) hB hdp (x0 := 200 * c + 20 * p_ri A r + p_fr A r) ⟨by omega, hc.1⟩ (y - p_fr A r).toNat (fun i i0 i1 => by
            have t := tw (p_fr A r + i) ⟨by omega, by omega⟩
            rw [show 200 * c + 20 * p_ri A r + p_fr A r + i = 200 * c + 20 * p_ri A r + (p_fr A r + i) by omega]
            exact ⟨t.1, by omega⟩) (mg_ok_mono okr (mg_ct_mono (by omega) gapr.2.1))
          rw [show 200 * c + 20 * p_ri A r + p_fr A r + (((y - p_fr A r).toNat : Nat) : Int) = 200 * c + 20 * p_ri A r + y by omega] at okw
          have c60 := mg_ct_60 hB hc
          have cs := mg_ct_s (c := c) (y := 200 * c + 20 * p_ri A r + y) (by omega) ty.1
          have cm := mg_ct_mono (B := B) (c := c) (y := 200 * c + 20 * p_ri A r + y + 1) (z := 200 * (c + 1)) (by omega) (by omega)
          have okn := okw.2.1
          have unf : mg_ws dp pg B (200 * c + 20 * p_ri A r + p_fr A r) (mg_pl T P k r) (y + 1 - p_fr A r).toNat s1 = if B 4 (200 * c + 20 * p_ri A r + y) = 5 then mg_step dp pg (200 * c + 20 * p_ri A r + y) (B 5 (200 * c + 20 * p_ri A r + y)) (mg_pl T P k r) (mg_ws dp pg B (200 * c + 20 * p_ri A r + p_fr A r) (mg_pl T P k r) (y - p_fr A r).toNat s1) else mg_ws dp pg B (200 * c + 20 * p_ri A r + p_fr A r) (mg_pl T P k r) (y - p_fr A r).toNat s1 := by
            rw [show (y + 1 - p_fr A r).toNat = (y - p_fr A r).toNat + 1 by omega]
            show (if B 4 (200 * c + 20 * p_ri A r + p_fr A r + ((y - p_fr A r).toNat : Int)) = 5 then mg_step dp pg (200 * c + 20 * p_ri A r + p_fr A r + ((y - p_fr A r).toNat : Int)) (B 5 (200 * c + 20 * p_ri A r + p_fr A r + ((y - p_fr A r).toNat : Int))) (mg_pl T P k r) (mg_ws dp pg B (200 * c + 20 * p_ri A r + p_fr A r) (mg_pl T P k r) (y - p_fr A r).toNat s1) else mg_ws dp pg B (200 * c + 20 * p_ri A r + p_fr A r) (mg_pl T P k r) (y - p_fr A r).toNat s1) = _
            rw [show 200 * c + 20 * p_ri A r + p_fr A r + (((y - p_fr A r).toNat : Nat) : Int) = 200 * c + 20 * p_ri A r + y by omega]
          refine w54_127 hS ⟨⟨rr.1, by omega⟩, fun _ => ⟨⟨by omega, by omega⟩, ?_⟩, fun q => by rw [O3 50 _ _ (by omega), row.2.2.1] at q; omega⟩
          rw [show 1 + 10 * c + p_ri A r = 1 + (10 * c + p_ri A r) by omega, bk.1]
          refine ⟨fun q5 => ⟨⟨rr.1, by omega⟩, ?_⟩, fun q5 => ⟨⟨by omega, by omega⟩, ?_⟩⟩
          · rw [O3 48 _ _ (by omega), row.1]
            refine w147 hS ⟨⟨by omega, by omega⟩, ⟨by omega, by omega⟩, ⟨by omega, by omega⟩, ⟨by omega, by omega⟩, ⟨by omega, by omega⟩, ?_⟩
            rw [bk.2.1, show (c * 10 + p_ri A r) * 20 + y = 200 * c + 20 * p_ri A r + y by omega]
            have b5 := hB.2.2.2.1 (200 * c + 20 * p_ri A r + y)
            refine t55s hS hc (by omega) b5 ⟨plb.1, by omega⟩ sc3 okw (by omega) hdp hpg (fun N3 O4 sc4 => ⟨⟨by omega, by omega⟩, ?_⟩)
            rw [show 1 + (10 * c + p_ri A r) = 1 + 10 * c + p_ri A r by omega]
            refine ihy (by omega) N3 (fun k m z q => by rw [O4 k m z (by omega)]; exact O3 k m z q) ?_
            rw [unf, if_pos q5]; exact sc4
          · rw [show 1 + (10 * c + p_ri A r) = 1 + 10 * c + p_ri A r by omega]
            refine ihy (by omega) N2 O3 ?_
            rw [unf, if_neg q5]; exact sc3
      refine w54_57 hS ⟨⟨hk.1, by omega⟩, fun _ => ⟨fun q => ?_, fun q => ?_⟩, fun q => by rw [O _ _ _ (by omega), hP.1] at q; omega⟩
      · have er : r = g_bf P 0 k := by omega
        have e1 : mg_pre T P k r = mg_pl T P k r := by
          unfold mg_pre mg_pl mg_bl
          rw [if_pos er, er, Int.sub_self (T 0 (g_bf P 0 k + 1))]
        have e2 : mg_bl T P k r = mg_bl T P k (r + 1) := by
          unfold mg_bl
          rw [if_pos er, if_neg (by omega), er]; omega
        rw [e1, e2]
        exact words N _ _ O sc
      · have m54 : ∀ x, 0 ≤ x → x ≤ T 8 0 → N 54 (1 + 3 * e + c) x = T 0 x := fun x a b => by rw [O _ _ _ (by omega)]; exact (hcT.2.2.2.1 x a b).1
        refine t92 hS ⟨by omega, by omega⟩ ?_
        rw [m54 r (by omega) (by omega), m54 (r + 1) (by omega) (by omega)]
        have bs := bls r (by omega)
        have bm0 := blm (r - 1) (by omega)
        rw [show r - 1 + 1 = r by omega] at bm0
        by_cases qb : T 0 (r + 1) ≤ T 0 r
        · rw [if_pos qb]
          refine ⟨fun _ => ?_, fun z => absurd rfl z⟩
          have e1 : mg_pre T P k r = mg_pl T P k r := by
            unfold mg_pre mg_pl mg_bl
            rw [if_neg (by omega), show T 0 (r + 1) = T 0 r by omega]
          have e2 : mg_bl T P k r = mg_bl T P k (r + 1) := by
            unfold mg_bl
            rw [if_neg (by omega), if_neg (by omega)]; omega
          rw [e1, e2]
          exact words N _ _ O sc
        · rw [if_neg qb]
          refine ⟨fun z => absurd z (by decide), fun _ y hy => ?_⟩
          have e2 : mg_bl T P k (r + 1) = mg_bl T P k r + 1 := by
            unfold mg_bl
            rw [if_neg (by omega), if_neg (by omega)]; omega
          have e3 : mg_bl T P k r = T 0 r - T 0 (g_bf P 0 k + 1) := by unfold mg_bl; rw [if_neg (by omega)]
          have e1 : mg_pre T P k r + y = mg_pl T P k r := by
            unfold mg_pre mg_pl
            rw [hy, show T 0 (r + 1) - T 0 (g_bf P 0 k + 1) = mg_bl T P k r + 1 by omega]
            unfold mg_min
            generalize mg_bl T P k r = z
            split <;> split <;> split <;> omega
          have bz := blb r (by omega)
          rw [e1, show P 3 k - mg_bl T P k r + (-1) = P 3 k - mg_bl T P k (r + 1) by omega]
          have bz3 := blb (g_bf P 0 k + 1) (by omega)
          exact ⟨⟨by omega, by omega⟩, ⟨by omega, by omega⟩, words N _ _ O sc⟩
  refine w54 hS (t82 hS ⟨by omega, by omega⟩ ?_)
  rw [bm.1]
  refine t83 hS ⟨by omega, by omega⟩ ?_
  rw [bm.2.1, hP.2.1, hP.2.2.2.1]
  have f0 := at'.2.1
  refine ⟨⟨hk.1, by omega⟩, fun q => ⟨⟨hk.1, by omega⟩, ?_⟩, fun q => ?_⟩
  · have e0 : mg_base T P k = 0 := by unfold mg_base; rw [if_pos q]
    have := rows M (.inl (g_bf P 1 k)) q_u q_u (fun _ _ _ _ => rfl) hs
    rw [e0] at this
    exact this
  · have a1 := hib (g_bf P 1 k) f0.1 (by omega)
    have a2 := hib (g_bf P 1 k + 1) (by omega) (by omega)
    have b1 := hcT.2.2.2.2.1 (g_bf P 1 k) f0.1 (by omega)
    have b2 := hcT.2.2.2.2.1 (g_bf P 1 k + 1) (by omega) (by omega)
    refine t93 hS ⟨f0.1, by omega⟩ ⟨a2.1, by omega, a1.1, by omega⟩ ⟨⟨hk.1, by omega⟩, ?_⟩
    have e0 : mg_base T P k = M 61 (1 + 3 * e + c) (g_bf P 1 k + 1) - M 61 (1 + 3 * e + c) (g_bf P 1 k) := by unfold mg_base; rw [if_neg q, b1, b2]
    rw [← e0, hP.2.2.2.1]
    exact rows M _ q_u q_u (fun _ _ _ _ => rfl) hs
