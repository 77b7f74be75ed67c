/-! ===== a round of the class ===== -/
theorem c_la_bd {B : pT} {L : Int → Int} {E : Int → Int → Int} {ob : Prop} {Bo : pT} {Ro : c_R} {p0 c : Int} {W : Int → c_W} {W0 C : Int → Int} (hB : c_ok B) (hL : c_lines B W0 L C E) (hp : 0 ≤ p0 ∧ p0 ≤ 100) (hc : c ≤ 3) (h : c_chs B L E ob Bo Ro p0 W c) : ∀ n : Nat, (n : Int) ≤ c → 0 ≤ c_la W p0 n ∧ c_la W p0 n ≤ 100 + 100 * n
  | 0, _ => by show 0 ≤ p0 ∧ _; exact ⟨hp.1, by show p0 ≤ _; omega⟩
  | n + 1, hn => by
    have ih := c_la_bd hB hL hp hc h n (by omega)
    have k := h n (by omega) (by omega)
    show 0 ≤ (if 0 < w_fi (W n) then w_fi (W n) + w_ct (W n) - 1 else c_la W p0 n) ∧ (if 0 < w_fi (W n) then w_fi (W n) + w_ct (W n) - 1 else c_la W p0 n) ≤ _
    split
    · rename_i q
      have N0 : 0 < B 0 n := Classical.byContradiction fun z => by have := (k.1.1 (by omega)).1; omega
      have g := (k.1.2 N0).2.2.1
      have g67 : p_T (c_A B L E n) (B 0 n) (B 8 1) 8 0 ≤ 67 := (c_okB hB hL ⟨by omega, by omega⟩).2.2
      have e := k.2
      unfold c_fst at e
      rw [if_neg (by omega), show ((n : Int)).toNat = n from rfl] at e
      omega
    · omega
def c_out (B : pT) (W : Int → Int) (ob : Prop) (Bo : pT) (Ro : c_R) (p0 : Int) (R : c_R) : Prop := c_lines B W (r_L R) (r_C R) (r_E R) ∧ c_chs B (r_L R) (r_E R) ob Bo Ro p0 (r_W R) 3
def c_fail (B : pT) (W : Int → Int) (ob : Prop) (Bo : pT) (Ro : c_R) (p0 : Int) : Prop := ∃ L C E W' c, c_lines B W L C E ∧ (0 ≤ c ∧ c < 3) ∧ c_chs B L E ob Bo Ro p0 W' c ∧ 0 < B 0 c ∧ g_none (p_T (c_A B L E c) (B 0 c) (B 8 1)) (c_keep B (c_A B L E c) ob Bo Ro c (c_fst B W' p0 c))
/-- the page of a word of a row -/
theorem c_G_at {B : pT} {W : Int → Int} {ob : Prop} {Bo : pT} {Ro R : c_R} {p0 c k r w : Int} (hB : c_ok B) (h : c_out B W ob Bo Ro p0 R) (hc : 0 ≤ c ∧ c < 3) (hk : 0 ≤ k ∧ k < w_ct (r_W R c)) (hr : g_bf (w_P (r_W R c)) 0 k ≤ r ∧ r < w_P (r_W R c) 0 k) (hr0 : 0 ≤ r ∧ r < p_SR (r_A B R c) (B 0 c)) (hw : p_fr (r_A B R c) r ≤ w ∧ w < p_to (r_A B R c) r) : c_G B R (200 * c + 20 * p_ri (r_A B R c) r + w) = w_fi (r_W R c) + k := by
  have ok := c_okB hB h.1 hc
  have ri := p_row_in ok.1 hr0
  have n10 := ok.1.1
  have N0 : 0 < B 0 c := Classical.byContradiction fun z => by have := ((h.2 c hc.1 hc.2).1.1 (by omega)).2.1; omega
  have pg := ((h.2 c hc.1 hc.2).1.2 N0).2.2
  have ri' : (0 ≤ p_ri (r_A B R c) r ∧ p_ri (r_A B R c) r < B 0 c) ∧ 0 ≤ p_fr (r_A B R c) r ∧ p_to (r_A B R c) r ≤ 20 := ⟨ri.1, ri.2.2.1, by have := ri.2.2.2.2; exact Int.le_trans this.1 this.2⟩
  unfold c_G
  rw [show (200 * c + 20 * p_ri (r_A B R c) r + w) / 200 = c by omega, show (200 * c + 20 * p_ri (r_A B R c) r + w) / 20 % 10 = p_ri (r_A B R c) r by omega, show (200 * c + 20 * p_ri (r_A B R c) r + w) % 20 = w by omega]
  have e1 : c_row (r_A B R c) (p_ri (r_A B R c) r) w = r := c_row_at ok.1 hr0 hw
  rw [e1, c_pg_at pg hk hr]
theorem c_G_ex {B : pT} {W : Int → Int} {ob : Prop} {Bo : pT} {Ro R : c_R} {p0 y : Int} (hB : c_ok B) (h : c_out B W ob Bo Ro p0 R) (hy : 0 ≤ y ∧ y < 600) (ht : c_there B y) : ∃ k r, (0 ≤ k ∧ k < w_wr (r_W R (y / 200))) ∧ (g_bf (w_P (r_W R (y / 200))) 0 k ≤ r ∧ r < w_P (r_W R (y / 200)) 0 k) ∧ (0 ≤ r ∧ r < p_SR (r_A B R (y / 200)) (B 0 (y / 200))) ∧ p_ri (r_A B R (y / 200)) r = y / 20 % 10 ∧ (p_fr (r_A B R (y / 200)) r ≤ y % 20 ∧ y % 20 < p_to (r_A B R (y / 200)) r) ∧ c_G B R y = w_fi (r_W R (y / 200)) + k := by
  have hc : 0 ≤ y / 200 ∧ y / 200 < 3 := by omega
  have ok := c_okB hB h.1 hc
  have ok' : p_okA (r_A B R (y / 200)) (B 0 (y / 200)) := ok.1
  have n10 := ok.1.1
  have hi : 0 ≤ y / 20 % 10 ∧ y / 20 % 10 < B 0 (y / 200) := ⟨by omega, ht.1⟩
  have v := (c_A_v (B := B) (L := r_L R) (E := r_E R) (c := y / 200) (i := y / 20 % 10) (w := 0) ⟨hi.1, by omega⟩).2.2.2.2.2.2
  have e6 : r_A B R (y / 200) 6 (y / 20 % 10) 0 = B 3 (y / 20) := by rw [show r_A B R (y / 200) = c_A B (r_L R) (r_E R) (y / 200) from rfl, v, show 10 * (y / 200) + y / 20 % 10 = y / 20 by omega]
  obtain ⟨r, r1, r2, r3, r4⟩ := c_row_ex ok' hi (w := y % 20) ⟨by omega, by rw [e6]; exact ht.2⟩
  have pg := ((h.2 (y / 200) hc.1 hc.2).1.2 (by omega)).2.2
  obtain ⟨k, k1, k2, k3⟩ := c_pg_ex pg (r := r) r1
  have pg1 := pg.1
  have := c_G_at hB h hc (k := k) (r := r) (w := y % 20) ⟨k1.1, by omega⟩ ⟨k2, k3⟩ r1 ⟨r3, r4⟩
  rw [r2, show 200 * (y / 200) + 20 * (y / 20 % 10) + y % 20 = y by omega] at this
  exact ⟨k, r, k1, ⟨k2, k3⟩, r1, r2, ⟨r3, r4⟩, this⟩
theorem c_fi_bd {B : pT} {W : Int → Int} {ob : Prop} {Bo : pT} {Ro R : c_R} {p0 c : Int} (hB : c_ok B) (hp : 0 ≤ p0 ∧ p0 ≤ 100) (h : c_out B W ob Bo Ro p0 R) (hc : 0 ≤ c ∧ c < 3) : (0 ≤ w_fi (r_W R c) ∧ w_fi (r_W R c) ≤ 302) ∧ (0 ≤ w_ct (r_W R c) ∧ w_ct (r_W R c) ≤ 83) ∧ (0 ≤ w_wr (r_W R c) ∧ w_wr (r_W R c) ≤ 67) := by
  have k := h.2 c hc.1 hc.2
  have b := c_la_bd hB h.1 hp (Int.le_refl _) h.2 c.toNat (by omega)
  have e := k.2
  unfold c_fst at e
  by_cases q : B 0 c ≤ 0
  · have := k.1.1 q; omega
  · rw [if_neg q] at e
    have g := (k.1.2 (by omega)).2.2.1
    have g67 : p_T (c_A B (r_L R) (r_E R) c) (B 0 c) (B 8 1) 8 0 ≤ 67 := (c_okB hB h.1 hc).2.2
    omega
/-- the round in edition e -/
def c_edm (B : pT) (R : c_R) (p0 e : Int) (M : qM) : Prop := (∀ x, 0 ≤ x → x < 30 → M 5 (1 + x) 10 = r_L R x ∧ M 5 (1 + x) 11 = r_C R x ∧ ∀ s, M 37 (1 + x) s = r_E R x s) ∧ (∀ c, 0 ≤ c → c < 3 → c_ch (r_A B R c) (B 0 c) (r_W R c) c e M) ∧ M 3 e 4 = c_la (r_W R) p0 3 ∧ ∀ y, 0 ≤ y → y < 600 → c_there B y → M 24 e y = c_G B R y ∧ M 26 e y = (if c_K B y = 2 then b_num (c_K B) (c_G B R) (B 8 2) y else 0) ∧ M 25 e y = if c_K B y = 6 then b_text (c_K B) (B 5) (c_G B R) y else -1
def fr16r (e : Int) (M M' : qM) : Prop := ∀ (k : Nat) (m s : Int), ¬ (k = 35 ∨ k = 36 ∨ k = 37 ∨ ((k = 12 ∨ k = 13 ∨ k = 14 ∨ k = 19 ∨ k = 40 ∨ k = 41 ∨ k = 42) ∧ m = 0) ∨ (k = 2 ∧ m = 0 ∧ s = 9) ∨ (k = 5 ∧ (s = 8 ∨ s = 10 ∨ s = 11)) ∨ (k = 7 ∧ m = 0 ∧ 3 ≤ s ∧ s ≤ 12) ∨ (k = 3 ∧ m = e ∧ s = 4) ∨ (24 ≤ k ∧ k ≤ 26 ∧ m = e) ∨ ((1 + 3 * e ≤ m ∧ m < 1 + 3 * e + 3) ∧ ((k = 9 ∧ (s = 0 ∨ s = 12 ∨ s = 16 ∨ s = 17)) ∨ (48 ≤ k ∧ k ≤ 61))) ∨ ((0 + 3 * e ≤ m ∧ m < 0 + 3 * e + 3) ∧ ((k = 8 ∧ 0 ≤ s ∧ s ≤ 3) ∨ (43 ≤ k ∧ k ≤ 47)))) → M' k m s = M k m s
theorem t16 {d : Nat} {h : qH} (hS : qSe h) {B Bo : pT} {W : Int → Int} {ob : Prop} {Ro : c_R} {e e' r p0 : Int} {M : qM} {f : Int → qM → Prop}
    (hB : c_ok B) (h180 : b_n (c_K B) 600 ≤ 180) (he : 0 ≤ e ∧ e < 1000) (h7 : M 2 0 7 = e + 1) (h6 : 0 < M 2 0 6) (hM : c_bk B M) (hls : b_ls (c_K B) M) (hed : M 3 e 0 = B 8 0 ∧ M 3 e 1 = B 8 1 ∧ M 3 e 2 = B 8 2) (hser : ∀ x, 0 ≤ x → x < 30 → x % 10 < B 0 (x / 10) → M 23 e x = B 7 x) (h0 : c_z e M)
    (hold : (¬ ob ∧ M 2 0 8 = 0) ∨ (ob ∧ (0 ≤ e' ∧ e ≠ e') ∧ M 2 0 8 = e' + 1 ∧ c_om Bo Ro e' M ∧ ∀ L E, c_oldok B L E Bo Ro)) (hb : c_bd M) (hr : 0 ≤ r ∧ r < 13) (hp0 : M 3 e 3 = p0) (hp : 0 ≤ p0 ∧ p0 ≤ 100)
    (h32 : ∀ it i, 0 ≤ M 32 it i ∧ M 32 it i ≤ 8) (h35 : ∀ it i, 0 ≤ M 35 it i ∧ M 35 it i ≤ 8) (h350 : ∀ y, 0 ≤ y → y < 600 → b_ch (c_K B) y = 0 → M 35 (1 + y / 20) (y % 20) = 0) (h18 : ∀ y, 0 ≤ y → y < 600 → b_ch (c_K B) y = 1 → M 18 r (b_n (c_K B) y) = W y) (hW : ∀ y, 0 ≤ y → y < 600 → (0 ≤ W y ∧ W y ≤ 8) ∧ (b_ch (c_K B) y = 0 → W y = 0)) (hn : ∀ it, 0 ≤ M 5 it 2 ∧ M 5 it 2 ≤ 20) (h9 : 0 ≤ M 2 0 9 ∧ M 2 0 9 ≤ 1000000) (hbrk : c_brk B M)
    (hprev : r ≠ 0 → ∀ c, 0 ≤ c → c < 3 → ∃ w, c_ch (c_A B (fun x => M 5 (1 + x) 10) (fun x => M 37 (1 + x)) c) (B 0 c) w c e M ∧ c_mk B (c_A B (fun x => M 5 (1 + x) 10) (fun x => M 37 (1 + x)) c) ob Bo Ro c w)
    (H1 : ∀ M' R, fr16r e M M' → c_out B W ob Bo Ro p0 R → c_edm B R p0 e M' → c_brkW B W M' → c_brk B M' → M' 2 0 9 = M 2 0 9 + p_sum (c_rg B (fun x => M 5 (1 + x) 8) (fun y => M 36 (1 + y / 20) (y % 20)) W) 30 → c_bd M' → c_z e M' → (∀ y, 0 ≤ y → y < 600 → M' 35 (1 + y / 20) (y % 20) = W y) → (∀ it i, 0 ≤ M' 35 it i ∧ M' 35 it i ≤ 8) → f 1 M')
    (H0 : ∀ M', fr16r e M M' → c_fail B W ob Bo Ro p0 → c_brk B M' → c_bd M' → c_z e M' → (∀ y, 0 ≤ y → y < 600 → M' 35 (1 + y / 20) (y % 20) = W y) → (∀ it i, 0 ≤ M' 35 it i ∧ M' 35 it i ≤ 8) → c_brkW B W M' → M' 2 0 9 = M 2 0 9 + p_sum (c_rg B (fun x => M 5 (1 + x) 8) (fun y => M 36 (1 + y / 20) (y % 20)) W) 30 → f 0 M') : e16 (d + 6) h r M f := by
  have bd := hB
  obtain ⟨b1, b2, b3, b4, b5, b6, b7, b8, b9⟩ := bd
  have e2 := hls.1
  refine w16 hS (t16_2 hS (c_bk_cw hM) hls h6 h180 hr (fun M1 u3 u4 u5 O1 a1 a2 => w16_2 hS ⟨fun q => ?_, fun _ => ?_⟩))
  · rw [O1 _ _ _ (by decide)] at q; exact absurd q (Int.lt_irrefl _)
  have hM1 : c_bk B M1 := ⟨fun c a b => by rw [O1 _ _ _ (by decide)]; exact hM.1 c a b, fun x a b => by rw [O1 _ _ _ (by decide), O1 _ _ _ (by decide), O1 _ _ _ (by decide), O1 _ _ _ (by decide)]; exact hM.2.1 x a b, fun y a b => by rw [O1 _ _ _ (by decide), O1 _ _ _ (by decide), O1 _ _ _ (by decide)]; exact hM.2.2 y a b⟩
  have w35 : ∀ y, 0 ≤ y → y < 600 → M1 35 (1 + y / 20) (y % 20) = W y := fun y y0 y1 => by
    have bb := b_ch_b (K := c_K B) (x := y)
    by_cases q : b_ch (c_K B) y = 1
    · rw [a1 y y0 y1 q]; exact h18 y y0 y1 q
    · rw [a2 _ _ (fun ⟨z, z1, z2, z3, z4⟩ => q (by rw [show y = z by omega]; exact z2)), h350 y y0 y1 (by omega), (hW y y0 y1).2 (by omega)]
  have b35 : ∀ it i, 0 ≤ M1 35 it i ∧ M1 35 it i ≤ 8 := fun it i => by
    by_cases q : ∃ y, (0 ≤ y ∧ y < 600) ∧ b_ch (c_K B) y = 1 ∧ it = 1 + y / 20 ∧ i = y % 20
    · obtain ⟨y, y1, y2, rfl, rfl⟩ := q
      rw [w35 y y1.1 y1.2]; exact (hW y y1.1 y1.2).1
    · rw [a2 _ _ q]; exact h35 it i
  have brk1 : c_brk B M1 := ⟨fun x a b c => by
    have := hbrk.1 x a b c
    have e36 : M1 36 (1 + x) = M 36 (1 + x) := by funext s; exact O1 _ _ _ (by decide)
    have e37 : M1 37 (1 + x) = M 37 (1 + x) := by funext s; exact O1 _ _ _ (by decide)
    rw [O1 _ _ _ (by decide), O1 _ _ _ (by decide), O1 _ _ _ (by decide), e36, e37]
    exact this, fun x a b c => by rw [O1 _ _ _ (by decide), O1 _ _ _ (by decide)]; exact hbrk.2 x a b c⟩
  refine t17 hS (e := e) (W := B 8 0) (by rw [O1 _ _ _ (by decide)]; exact h6) he.1 (by rw [O1 _ _ _ (by decide)]; exact h7) (by rw [O1 _ _ _ (by decide)]; exact hed.1) b7 (fun c a b => by rw [hM1.1 c a b]; exact (b1 c a b).1) (fun it => by rw [O1 _ _ _ (by decide)]; exact hn it) (fun it i => by have := b35 it i; have := h32 it i; rw [O1 32 _ _ (by decide)]; omega) (by rw [O1 _ _ _ (by decide)]; exact h9) (fun v M2 D hv => ?_)
  obtain ⟨lin, bW, brk2, cnt2⟩ := c_broke hB hM1 w35 brk1 D
  have O2 := D.1
  have OO : ∀ (k : Nat) (m s : Int), ¬ (k = 35 ∨ k = 36 ∨ k = 37 ∨ ((k = 12 ∨ k = 13 ∨ k = 14) ∧ m = 0) ∨ (k = 2 ∧ m = 0 ∧ s = 9) ∨ (k = 5 ∧ (s = 8 ∨ s = 10 ∨ s = 11))) → M2 k m s = M k m s := fun k m s q => by rw [O2 k m s (by omega), O1 k m s (by omega)]
  have y7 : M2 2 0 7 = e + 1 := by rw [OO _ _ _ (by omega)]; exact h7
  have y7' : M2 2 0 7 - 1 = e := by omega
  refine ⟨fun q => by omega, fun _ => ⟨fun q => by omega, fun _ M3 f3 => ?_, fun q => by omega⟩, fun q => by omega⟩
  rw [y7'] at f3
  have O3 : ∀ (k : Nat) (m s : Int), ¬ (k = 3 ∧ m = e ∧ s = 4) → M3 k m s = M2 k m s := fun k m s q => by rw [f3]; unfold qU; rw [if_neg q]
  have v4 : M3 3 e 4 = p0 := by rw [f3, qU_s, OO _ _ _ (by omega)]; exact hp0
  have hM3 : c_bk B M3 := ⟨fun c a b => by rw [O3 _ _ _ (by omega), OO _ _ _ (by omega)]; exact hM.1 c a b, fun x a b => by rw [O3 _ _ _ (by omega), O3 _ _ _ (by omega), O3 _ _ _ (by omega), O3 _ _ _ (by omega), OO _ _ _ (by omega), OO _ _ _ (by omega), OO _ _ _ (by omega), OO _ _ _ (by omega)]; exact hM.2.1 x a b, fun y a b => by rw [O3 _ _ _ (by omega), O3 _ _ _ (by omega), O3 _ _ _ (by omega), OO _ _ _ (by omega), OO _ _ _ (by omega), OO _ _ _ (by omega)]; exact hM.2.2 y a b⟩
  have O23 : ∀ (k : Nat) (m s : Int), ¬ (k = 35 ∨ k = 36 ∨ k = 37 ∨ ((k = 12 ∨ k = 13 ∨ k = 14) ∧ m = 0) ∨ (k = 2 ∧ m = 0 ∧ s = 9) ∨ (k = 5 ∧ (s = 8 ∨ s = 10 ∨ s = 11)) ∨ (k = 3 ∧ m = e ∧ s = 4)) → M3 k m s = M k m s := fun k m s q => by rw [O3 k m s (by omega), OO k m s (by omega)]
  have fin : ∀ M4, fr16c e 3 M3 M4 → fr16r e M M4 := fun M4 O4 k m s q => by
    rw [O4 k m s (fun z => q (Or.inr (Or.inr (Or.inr (Or.inr (Or.inr (Or.inr (Or.inl z)))))))) (fun z => q (Or.inr (Or.inr (Or.inr (Or.inl ⟨by omega, z.2⟩))))) (fun z => q (Or.inr (Or.inr (Or.inr (Or.inr (Or.inr (Or.inr (Or.inr (Or.inl z))))))))) (fun z => q (Or.inr (Or.inr (Or.inr (Or.inr (Or.inr (Or.inr (Or.inr (Or.inr (Or.inr (Or.inl z))))))))))) (fun z => q (Or.inr (Or.inr (Or.inr (Or.inr (Or.inr (Or.inr (Or.inr (Or.inr (Or.inr (Or.inr z)))))))))))]
    refine O23 k m s (fun z => ?_)
    rcases z with z | z | z | z | z | z | z
    · exact q (Or.inl z)
    · exact q (Or.inr (Or.inl z))
    · exact q (Or.inr (Or.inr (Or.inl z)))
    · exact q (Or.inr (Or.inr (Or.inr (Or.inl ⟨by omega, z.2⟩))))
    · exact q (Or.inr (Or.inr (Or.inr (Or.inr (Or.inl z)))))
    · exact q (Or.inr (Or.inr (Or.inr (Or.inr (Or.inr (Or.inl z))))))
    · exact q (Or.inr (Or.inr (Or.inr (Or.inr (Or.inr (Or.inr (Or.inr (Or.inl z))))))))
  have brkM : ∀ M4 : qM, (∀ (k : Nat) (m s : Int), (k = 36 ∨ k = 37 ∨ k = 5 ∨ k = 35) → M4 k m s = M2 k m s) → c_brk B M4 ∧ c_brkW B W M4 ∧ (∀ y, 0 ≤ y → y < 600 → M4 35 (1 + y / 20) (y % 20) = W y) ∧ ∀ it i, 0 ≤ M4 35 it i ∧ M4 35 it i ≤ 8 := fun M4 O4 => by
    refine ⟨⟨fun x a b c => ?_, fun x a b c => by rw [O4 _ _ _ (by decide), O4 _ _ _ (by decide)]; exact brk2.2 x a b c⟩, fun x a b c q => ?_, fun y a b => ?_, fun it i => ?_⟩
    · have e36 : M4 36 (1 + x) = M2 36 (1 + x) := by funext s; exact O4 _ _ _ (by decide)
      have e37 : M4 37 (1 + x) = M2 37 (1 + x) := by funext s; exact O4 _ _ _ (by decide)
      rw [O4 _ _ _ (by decide), O4 _ _ _ (by decide), O4 _ _ _ (by decide), e36, e37]
      exact brk2.1 x a b c
    · have := bW x a b c q
      exact ⟨by rw [O4 _ _ _ (by decide)]; exact this.1, fun j j0 j1 => by rw [O4 _ _ _ (by decide)]; exact this.2 j j0 j1⟩
    · rw [O4 _ _ _ (by decide), O2 _ _ _ (by omega)]; exact w35 y a b
    · rw [O4 _ _ _ (by decide), O2 _ _ _ (by omega)]; exact b35 it i
  have cnt3 : M2 2 0 9 = M 2 0 9 + p_sum (c_rg B (fun x => M 5 (1 + x) 8) (fun y => M 36 (1 + y / 20) (y % 20)) W) 30 := by
    rw [cnt2, O1 2 _ _ (by decide)]
    have e5 : (fun x => M1 5 (1 + x) 8) = fun x => M 5 (1 + x) 8 := by funext x; exact O1 _ _ _ (by decide)
    have e36 : (fun y => M1 36 (1 + y / 20) (y % 20)) = fun y => M 36 (1 + y / 20) (y % 20) := by funext x; exact O1 _ _ _ (by decide)
    rw [e5, e36]
  refine t16_68 hS (B := B) (Bo := Bo) (L := fun x => M2 5 (1 + x) 10) (C := fun x => M2 5 (1 + x) 11) (E := fun x => M2 37 (1 + x)) (W0 := W) (ob := ob) (Ro := Ro) (e := e) (e' := e') (p0 := p0) hB lin he (by rw [O3 _ _ _ (by omega)]; exact y7) (by rw [O23 _ _ _ (by omega)]; exact h6) hM3 (fun x a b => ⟨O3 _ _ _ (by omega), fun s => O3 _ _ _ (by omega)⟩) (by rw [O23 _ _ _ (by omega), O23 _ _ _ (by omega)]; exact ⟨hed.1, hed.2.1⟩) (fun x a b c => by rw [O23 _ _ _ (by omega)]; exact hser x a b c) (fun c a b => by rw [O23 _ _ _ (by omega), O23 _ _ _ (by omega), O23 _ _ _ (by omega), O23 _ _ _ (by omega), O23 _ _ _ (by omega)]; exact h0 c a b) ?_ ⟨fun s => by rw [O23 _ _ _ (by omega)]; exact hb.1 s, fun s => by rw [O23 _ _ _ (by omega)]; exact hb.2 s⟩ hr.1 hv.1 v4 hp ?_ ?_ ?_
  · rcases hold with hold | ⟨z1, z2, z3, z4, z5⟩
    · exact Or.inl ⟨hold.1, by rw [O23 _ _ _ (by omega)]; exact hold.2⟩
    · exact Or.inr ⟨z1, z2, by rw [O23 _ _ _ (by omega)]; exact z3, ⟨by rw [O23 _ _ _ (by omega)]; exact z4.1, by rw [O23 _ _ _ (by omega)]; exact z4.2.1, fun c a b => c_ch_fr (z4.2.2.1 c a b) (fun k s q => O23 _ _ _ (by omega)) (fun k s q => O23 _ _ _ (by omega)), fun x a b c => by rw [O23 _ _ _ (by omega)]; exact z4.2.2.2 x a b c⟩, z5 _ _⟩
  · intro r0 c c0 c3 nb
    obtain ⟨w, hw1, hw2⟩ := hprev r0 c c0 c3
    have eA : c_A B (fun x => M2 5 (1 + x) 10) (fun x => M2 37 (1 + x)) c = c_A B (fun x => M 5 (1 + x) 10) (fun x => M 37 (1 + x)) c := by
      have it : ∀ i, 0 ≤ i ∧ i < 10 → b_same M1 M2 (1 + (10 * c + i)) := fun i hi => by
        have q := D.2.2.1 (10 * c + i) (by omega) (by omega)
        rcases b_rg_b (M := M1) (W := B 8 0) (x := 10 * c + i) with z | z
        · exact q.2 z
        · exact absurd ((hv.2 c c0 c3).mpr ⟨10 * c + i, by omega, by omega, z⟩) nb
      funext k i w
      unfold c_A
      by_cases hi : 0 ≤ i ∧ i < 10
      · rw [if_pos hi, if_pos hi]
        have e5 : M2 5 (1 + (10 * c + i)) 10 = M 5 (1 + (10 * c + i)) 10 := by rw [it i hi 5 10 (by omega), O1 _ _ _ (by decide)]
        have e37 : M2 37 (1 + (10 * c + i)) w = M 37 (1 + (10 * c + i)) w := by rw [it i hi 37 w (by omega), O1 _ _ _ (by decide)]
        simp only [e5, e37]
      · rw [if_neg hi, if_neg hi]
    rw [eA]
    exact ⟨w, c_ch_fr hw1 (fun k s q => O23 _ _ _ (by omega)) (fun k s q => O23 _ _ _ (by omega)), hw2⟩
  · intro M4 W4 O4 chs chm la4 bd4
    have out : c_out B W ob Bo Ro p0 (fun x => M2 5 (1 + x) 10, fun x => M2 5 (1 + x) 11, fun x => M2 37 (1 + x), W4) := ⟨lin, chs⟩
    generalize hR : ((fun x => M2 5 (1 + x) 10, fun x => M2 5 (1 + x) 11, fun x => M2 37 (1 + x), W4) : c_R) = R at out
    have rW : r_W R = W4 := by rw [← hR]; rfl
    have rA : ∀ c, c_A B (fun x => M2 5 (1 + x) 10) (fun x => M2 37 (1 + x)) c = r_A B R c := fun c => by rw [← hR]; rfl
    have O24 : ∀ (k : Nat) (m s : Int), ¬ (k = 35 ∨ k = 36 ∨ k = 37 ∨ ((k = 12 ∨ k = 13 ∨ k = 14) ∧ m = 0) ∨ (k = 2 ∧ m = 0 ∧ s = 9) ∨ (k = 5 ∧ (s = 8 ∨ s = 10 ∨ s = 11))) → ¬ (k = 7 ∧ m = 0 ∧ 3 ≤ s ∧ s ≤ 12) → ¬ ((k = 40 ∨ k = 41 ∨ k = 42) ∧ m = 0) → ¬ (k = 3 ∧ m = e ∧ s = 4) → ¬ ((1 + 3 * e ≤ m ∧ m < 1 + 3 * e + 3) ∧ ((k = 9 ∧ (s = 0 ∨ s = 12 ∨ s = 16 ∨ s = 17)) ∨ (48 ≤ k ∧ k ≤ 61))) → ¬ ((0 + 3 * e ≤ m ∧ m < 0 + 3 * e + 3) ∧ ((k = 8 ∧ 0 ≤ s ∧ s ≤ 3) ∨ (43 ≤ k ∧ k ≤ 47))) → M4 k m s = M k m s := fun k m s q1 q2 q3 q4 q5 q6 => by
      rw [O4 k m s q2 q3 q4 q5 q6]
      refine O23 k m s (fun z => ?_)
      rcases z with z | z | z | z | z | z | z
      · exact q1 (Or.inl z)
      · exact q1 (Or.inr (Or.inl z))
      · exact q1 (Or.inr (Or.inr (Or.inl z)))
      · exact q1 (Or.inr (Or.inr (Or.inr (Or.inl z))))
      · exact q1 (Or.inr (Or.inr (Or.inr (Or.inr (Or.inl z)))))
      · exact q1 (Or.inr (Or.inr (Or.inr (Or.inr (Or.inr z)))))
      · exact q4 z
    have lin4 : ∀ x, 0 ≤ x → x < 30 → M4 5 (1 + x) 10 = r_L R x ∧ M4 5 (1 + x) 11 = r_C R x ∧ ∀ s, M4 37 (1 + x) s = r_E R x s := fun x a b => by
      rw [← hR]
      exact ⟨by rw [O4 _ _ _ (by omega) (by omega) (by omega) (by omega) (by omega), O3 _ _ _ (by omega)]; rfl, by rw [O4 _ _ _ (by omega) (by omega) (by omega) (by omega) (by omega), O3 _ _ _ (by omega)]; rfl, fun s => by rw [O4 _ _ _ (by omega) (by omega) (by omega) (by omega) (by omega), O3 _ _ _ (by omega)]; rfl⟩
    have hM4 : c_bk B M4 := ⟨fun c a b => by rw [O24 _ _ _ (by omega) (by omega) (by omega) (by omega) (by omega) (by omega)]; exact hM.1 c a b, fun x a b => by rw [O24 _ _ _ (by omega) (by omega) (by omega) (by omega) (by omega) (by omega), O24 _ _ _ (by omega) (by omega) (by omega) (by omega) (by omega) (by omega), O24 _ _ _ (by omega) (by omega) (by omega) (by omega) (by omega) (by omega), O24 _ _ _ (by omega) (by omega) (by omega) (by omega) (by omega) (by omega)]; exact hM.2.1 x a b, fun y a b => by rw [O24 _ _ _ (by omega) (by omega) (by omega) (by omega) (by omega) (by omega), O24 _ _ _ (by omega) (by omega) (by omega) (by omega) (by omega) (by omega), O24 _ _ _ (by omega) (by omega) (by omega) (by omega) (by omega) (by omega)]; exact hM.2.2 y a b⟩
    have real : ∀ M5 : qM, (∀ (k : Nat) (m s : Int), (k = 1 ∨ (k = 5 ∧ s = 2)) → M5 k m s = M4 k m s) → ∀ y, 0 ≤ y → y < 600 → (b_real M5 y ↔ c_there B y) := fun M5 O5 y a b => by
      unfold b_real c_there
      rw [O5 _ _ _ (by omega), O5 _ _ _ (by omega), hM4.1 (y / 200) (by omega) (by omega), (hM4.2.1 (y / 20) (by omega) (by omega)).2.2.1]
    have e1' : ∀ c, 0 ≤ c → c < 3 → (0 ≤ w_fi (r_W R c) ∧ w_fi (r_W R c) ≤ 302) ∧ (0 ≤ w_ct (r_W R c) ∧ w_ct (r_W R c) ≤ 83) ∧ (0 ≤ w_wr (r_W R c) ∧ w_wr (r_W R c) ≤ 67) := fun c a b => c_fi_bd hB hp out ⟨a, b⟩
    refine t20 hS (K := c_K B) (V := B 5) (G := c_G B R) (A := fun c => r_A B R c) (P := fun c => w_P (r_W R c)) (cnt := fun c => B 0 c) (wo := fun c => w_wr (r_W R c)) (fi := fun c => w_fi (r_W R c)) (e := e) (bp := B 8 2) (c_bk_cw hM4) ⟨by rw [O24 _ _ _ (by omega) (by omega) (by omega) (by omega) (by omega) (by omega)]; exact hls.1, fun y a b q => by rw [O24 _ _ _ (by omega) (by omega) (by omega) (by omega) (by omega) (by omega)]; exact hls.2 y a b q⟩ (by rw [O24 _ _ _ (by omega) (by omega) (by omega) (by omega) (by omega) (by omega)]; exact h6) he.1 (by rw [O24 _ _ _ (by omega) (by omega) (by omega) (by omega) (by omega) (by omega)]; exact h7) h180 (fun y _ _ _ => by have := b4 y; omega) (by rw [O24 _ _ _ (by omega) (by omega) (by omega) (by omega) (by omega) (by omega)]; exact hed.2.2) (fun c c0 c3 => ?_) (fun y a b q => ?_) (fun M5 O5 wv => ?_)
    · have ok := c_okB hB out.1 ⟨c0, c3⟩
      have n10 := ok.1.1
      have ch := chm c c0 c3
      rw [rA c, ← rW] at ch
      have mk := (out.2 c c0 c3).1
      have bb := e1' c c0 c3
      refine ⟨ok.1, hM4.1 c c0 c3, fun i i0 i1 => c_rep hM4 ⟨c0, c3⟩ ⟨i0, by omega⟩ ⟨(lin4 _ (by omega) (by omega)).1, (lin4 _ (by omega) (by omega)).2.2⟩, fun q q0 q1 => ?_, by omega, ch.2.2.2.1, ch.2.2.1, by omega, fun k k0 k1 => ?_, ?_⟩
      · have := ch.1.1.2.1 q q0 q1
        exact ⟨this.1, this.2.1, this.2.2.1⟩
      · have N0 : 0 < B 0 c := Classical.byContradiction fun z => by have := (mk.1 (by omega)).2.2.1; omega
        have pg := (mk.2 N0).2.2
        have pg1 := pg.1
        have up := g_pages_up pg k k0 (by omega)
        have at' := (pg.2.2.2.2.1 k k0 (by omega)).1
        refine ⟨(ch.2.1.2 k k0 (by omega)).1, up.1, up.2.1, fun r r0 r1 w w0 w1 => ?_⟩
        have t8 : p_T (c_A B (r_L R) (r_E R) c) (B 0 c) (B 8 1) 8 0 = p_SR (r_A B R c) (B 0 c) := rfl
        exact c_G_at hB out ⟨c0, c3⟩ ⟨k0, by omega⟩ ⟨r0, r1⟩ ⟨by omega, by omega⟩ ⟨w0, w1⟩
      · by_cases N0 : 0 < B 0 c
        · have pg := (mk.2 N0).2.2
          exact pg.2.2.2.1 _ (Int.le_refl _) pg.1.2.1
        · have m0 := mk.1 (by omega)
          have z : g_bf (w_P (r_W R c)) 0 (w_wr (r_W R c)) = 0 := by rw [m0.2.2.1]; unfold g_bf; rw [if_pos (Int.le_refl _)]
          show g_bf (w_P (r_W R c)) 0 (w_wr (r_W R c)) = p_SR (r_A B R c) (B 0 c)
          rw [z, show B 0 c = 0 by omega]; rfl
    · have ty := (real M4 (fun _ _ _ _ => rfl) y a b).mp q
      obtain ⟨k, r, k1, _, _, _, _, k6⟩ := c_G_ex hB out ⟨a, b⟩ ty
      have bb := e1' (y / 200) (by omega) (by omega)
      have mk := (out.2 (y / 200) (by omega) (by omega)).1
      have N0 : 0 < B 0 (y / 200) := by have := ty.1; omega
      have := (mk.2 N0).1
      rw [k6]; omega
    · have O45 : ∀ (k : Nat) (m s : Int), ¬ (24 ≤ k ∧ k ≤ 26 ∧ m = e) → ¬ (k = 19 ∧ m = 0) → M5 k m s = M4 k m s := fun k m s q1 q2 => O5 k m s (by omega)
      have bk := brkM M5 (fun k m s q => by rw [O45 _ _ _ (by omega) (by omega), O4 _ _ _ (by omega) (by omega) (by omega) (by omega) (by omega), O3 _ _ _ (by omega)])
      have chm5 : ∀ c, 0 ≤ c → c < 3 → c_ch (r_A B R c) (B 0 c) (r_W R c) c e M5 := fun c a b => by
        have ch := chm c a b
        rw [rA c, ← rW] at ch
        exact c_ch_fr ch (fun k s q => O45 _ _ _ (by omega) (by omega)) (fun k s q => O45 _ _ _ (by omega) (by omega))
      refine H1 M5 R (fun k m s q => ?_) out ⟨fun x a b => ?_, chm5, ?_, fun y a b t => ?_⟩ bk.2.1 bk.1 ?_ ⟨fun s => by rw [O45 _ _ _ (by omega) (by omega)]; exact bd4.1 s, fun s => by rw [O45 _ _ _ (by omega) (by omega)]; exact bd4.2 s⟩ (fun c a b => p_rows_z (chm5 c a b).1 (c_okB hB out.1 ⟨a, b⟩).1) bk.2.2.1 bk.2.2.2
      · rw [O45 k m s (by omega) (by omega)]; exact fin M4 O4 k m s q
      · rw [O45 _ _ _ (by omega) (by omega), O45 _ _ _ (by omega) (by omega)]
        exact ⟨(lin4 x a b).1, (lin4 x a b).2.1, fun s => by rw [O45 _ _ _ (by omega) (by omega)]; exact (lin4 x a b).2.2 s⟩
      · rw [O45 _ _ _ (by omega) (by omega), la4, rW]
      · exact wv y a b ((real M4 (fun _ _ _ _ => rfl) y a b).mpr t)
      · rw [O45 _ _ _ (by omega) (by omega), O4 _ _ _ (by omega) (by omega) (by omega) (by omega) (by omega), O3 _ _ _ (by omega)]; exact cnt3
  · intro M4 W4 c O4 bd4 z4 c0 c3 chs N0 none
    have bk := brkM M4 (fun k m s q => by rw [O4 _ _ _ (by omega) (by omega) (by omega) (by omega) (by omega), O3 _ _ _ (by omega)])
    exact H0 M4 (fin M4 O4) ⟨_, _, _, W4, c, lin, ⟨c0, c3⟩, chs, N0, none⟩ bk.1 bd4 z4 bk.2.2.1 bk.2.2.2 bk.2.1 (by rw [O4 _ _ _ (by omega) (by omega) (by omega) (by omega) (by omega), O3 _ _ _ (by omega)]; exact cnt3)
