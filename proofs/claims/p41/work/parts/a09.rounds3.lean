/-! ===== makeRounds, with nothing kept; makeRounds whole ===== -/
theorem t11n_106 {d : Nat} {h : qH} (hS : qSe h) {B Bo : pT} {at' wd : Int → Int} {ob : Prop} {Ro : c_R} {Rq : Int → c_R} {e e' n v p0 : Int} {M : qM} {F : Int → qM → Prop} (u1 u2 u3 : qV)
    (hB : c_ok B) (h180 : b_n (c_K B) 600 ≤ 180) (he : 0 ≤ e ∧ e < 1000) (hp : 0 ≤ p0 ∧ p0 ≤ 100) (hE : c_env B ob Bo Ro e e' p0 M) (hH : c_hd B ob Bo Ro p0 e Rq at' wd n M) (ht : c_tk B Rq n M) (hn : 1 ≤ n ∧ n ≤ 12) (hgo : c_go B Rq (n - 1)) (hf : c_first B Rq (n - 1) v) (hv : v ≠ n - 1) (hv2 : v ≠ -1 ∨ n = 12)
    (H1 : ∀ M' R W res set' cnt, fr11 e M M' → c_comp B ob Bo Ro p0 at' wd W R res set' cnt → c_edm B R p0 e M' → c_brkX B W M' → (c_bd M' ∧ c_z e M' ∧ c_brk B M' ∧ c_35 B M') → M' 2 0 10 = set' → M' 2 0 9 = cnt → F res M')
    (H0 : ∀ M' W, fr11 e M M' → c_ncomp B ob Bo Ro p0 W → ((c_bd M' ∧ c_z e M' ∧ c_brk B M' ∧ c_35 B M') ∧ c_brkW B W M') → F (-1) M') : b11n_106 d h F u1 u2 u3 v n M := by
  have hvb : v = -1 ∨ (0 ≤ v ∧ v < n) := by
    unfold c_first at hf
    rw [show n - 1 + 1 = n by omega] at hf
    rcases hf with hf | hf
    · exact Or.inl hf.1
    · exact Or.inr hf.1
  have ls := hE.2.2.1
  have l180 := c_ls_180 ls h180
  refine w11n_106 hS (fun x hx => ?_)
  have hxb : 0 ≤ x ∧ x < n := by rw [hx]; split <;> omega
  refine t12 hS ⟨hxb.1, by omega, by omega⟩ l180 (fun M1 O1 v1 => ?_)
  have O11 := fr11_18 (e := e) O1
  have O18 : ∀ (k : Nat) (m s : Int), k ≠ 18 → ¬ (k = 2 ∧ m = 0 ∧ s = 10) → M1 k m s = M k m s := fun k m s q _ => O1 k m s (fun z => q z.1)
  have hH1 : c_hd B ob Bo Ro p0 e Rq at' wd n M1 := ⟨hH.1, by rw [O18 _ _ _ (by decide) (by omega)]; exact hH.2.1, c_st_18 O18 hH.2.2.1, fun q => ⟨c_edm_10 (hH.2.2.2.1 q).1 O18, c_brkX_18 O18 (hH.2.2.2.1 q).2⟩, fun q => by omega⟩
  have cnt1 := hH1.2.1
  refine t11_e16 hS (W := c_wide B Rq x n) hB h180 he hp (c_env_fr hE O11) hH1 ⟨by omega, by omega⟩ (fun y y0 y1 q => ?_) (fun y => c_wide_b (by omega) y) (fun M2 R O2 a1 a2 a3 a4 a5 => ⟨Or.inr rfl, fun M3 f3 => ⟨fun _ => ⟨by omega, by omega⟩, fun z hz => ?_⟩⟩) (fun M2 O2 a1 a4 => ⟨Or.inl rfl, fun M3 f3 => ⟨fun _ => ⟨by omega, by omega⟩, fun z hz => ?_⟩⟩)
  · have m0 : 0 ≤ b_n (c_K B) y := (p_sum_bd (g := b_ch (c_K B)) (b := 1) (fun k => b_ch_b) y0).1
    have m1 : b_n (c_K B) y + b_ch (c_K B) y ≤ b_n (c_K B) 600 := p_sum_lt (fun x _ _ => b_ch_b.1) y0 y1
    rw [v1 _ m0 (by rw [ls.1]; omega)]
    exact b_mx_cg (by omega) (fun r r0 r1 => ht r y (by omega) (by omega) y0 y1 q)
  · obtain ⟨O3, O3', v3⟩ := fr11_10 (e := e) f3
    rw [v3, if_neg (by decide)] at hz
    rw [hz]
    refine H1 M3 R (c_wide B Rq x n) (n + 1) 1 _ (fr11_t (fr11_t O11 (fr11_of O2)) O3) (Or.inr ⟨Rq, n, v, hn, hH.1, hgo, hf, hv, hv2, by rw [hx], a1, rfl, rfl, rfl⟩) (c_edm_10 a2 O3') (c_brkX_18 O3' a3) (c_st_18 O3' a4) v3 ?_
    rw [O3' _ _ _ (by decide) (by omega), a5, cnt1]
  · obtain ⟨O3, O3', v3⟩ := fr11_10 (e := e) f3
    rw [v3, if_pos rfl] at hz
    rw [hz]
    exact H0 M3 (c_wide B Rq x n) (fr11_t (fr11_t O11 (fr11_of O2)) O3) (Or.inr ⟨Rq, n, v, hn, hH.1, hgo, hf, hv, hv2, by rw [← hx]; exact a1, by rw [hx]⟩) ⟨c_st_18 O3' a4.1, c_brkW_18 O3' a4.2⟩
theorem t11n_35 {d : Nat} {h : qH} (hS : qSe h) {B Bo : pT} {at' wd : Int → Int} {ob : Prop} {Ro : c_R} {Rq0 : Int → c_R} {e e' p0 : Int} {M : qM} {F : Int → qM → Prop} (u1 u2 u3 : qV)
    (hB : c_ok B) (h180 : b_n (c_K B) 600 ≤ 180) (he : 0 ≤ e ∧ e < 1000) (hp : 0 ≤ p0 ∧ p0 ≤ 100) (hE : c_env B ob Bo Ro e e' p0 M) (hH : c_hd B ob Bo Ro p0 e Rq0 at' wd 0 M) (ht : c_tk B Rq0 0 M) (h10 : M 2 0 10 = 0)
    (H1 : ∀ M' R W res set' cnt, fr11 e M M' → c_comp B ob Bo Ro p0 at' wd W R res set' cnt → c_edm B R p0 e M' → c_brkX B W M' → (c_bd M' ∧ c_z e M' ∧ c_brk B M' ∧ c_35 B M') → M' 2 0 10 = set' → M' 2 0 9 = cnt → F res M')
    (H0 : ∀ M' W, fr11 e M M' → c_ncomp B ob Bo Ro p0 W → ((c_bd M' ∧ c_z e M' ∧ c_brk B M' ∧ c_35 B M') ∧ c_brkW B W M') → F (-1) M') : b11n_35 d h F u1 u2 u3 (-1) 0 M := by
  refine q_upto (P := fun r => 0 ≤ r → ∀ Rq M1, fr11 e M M1 → M1 2 0 10 = 0 → c_hd B ob Bo Ro p0 e Rq at' wd r M1 → c_tk B Rq r M1 → c_go B Rq r → b11n_35 d h F u1 u2 u3 (-1) r M1) (a := 0) (b := 12) (by decide) (fun _ Rq M1 O1 z1 hH1 ht1 hgo => ?_) (fun r r0 r12 ih _ Rq M1 O1 z1 hH1 ht1 hgo => ?_) (Int.le_refl _) Rq0 M (fun _ _ _ _ _ _ => rfl) h10 hH ht (fun t a b => by omega)
  · refine w11n_35 hS ⟨fun q => absurd q (by decide), fun _ => ?_⟩
    exact t11n_106 hS u1 u2 u3 hB h180 he hp (c_env_fr hE O1) hH1 ht1 (by decide) (fun t a b => hgo t a (by omega)) (hgo 11 (by decide) (by decide)) (by decide) (Or.inr rfl) (fun M2 R W res s cnt O2 => H1 M2 R W res s cnt (fr11_t O1 O2)) (fun M2 W O2 => H0 M2 W (fr11_t O1 O2))
  · have hE1 := c_env_fr hE O1
    refine w11n_35 hS ⟨fun _ => ⟨fun _ => ?_, fun q => absurd (show (-1 : Int) < 0 by decide) q⟩, fun q => absurd r12 q⟩
    refine t11_e16 hS (W := c_Wq B Rq r) hB h180 he hp hE1 hH1 ⟨by omega, by omega⟩ (fun y y0 y1 q => ht1 r y r0 (Int.le_refl _) y0 y1 q) (fun y => c_Wq_b y) (fun M2 R O2 a1 a2 a3 a4 a5 => ⟨fun q => absurd q (by decide), fun _ => ⟨⟨by omega, by omega⟩, ⟨by omega, by omega⟩, ?_⟩⟩) (fun M2 O2 a1 a4 => ⟨fun _ => H0 M2 _ (fr11_t O1 (fr11_of O2)) (Or.inl ⟨Rq, r, ⟨r0, r12⟩, hH1.1, hgo, a1, rfl⟩) a4, fun q => absurd rfl q⟩)
    have hE2 := c_env_fr hE1 (fr11_of O2)
    obtain ⟨⟨g1, g2⟩, g3, g4, g5, g6, g7, g8, g9⟩ := id hE2
    have gb := fun y => c_G_ex (y := y) hB a1
    refine t23 hS (c_bk_cw g3) g4 g2 he.1 g1 h180 (fun y y0 y1 k => ?_) (fun M3 O3 v3 => ?_)
    · have w := (a2.2.2.2 y y0 y1 (c_K_there (by omega))).2.2
      rw [w, if_pos k]
      unfold b_text b_tf
      by_cases z : b_lab (c_K B) (B 5) (B 5 y) 600 = -1
      · rw [if_pos z]; decide
      · rw [if_neg z]
        have lb : (0 ≤ b_lab (c_K B) (B 5) (B 5 y) 600 ∧ b_lab (c_K B) (B 5) (B 5 y) 600 < 600) ∧ c_K B (b_lab (c_K B) (B 5) (B 5 y) 600) = 1 := by
          have : b_lab (c_K B) (B 5) (B 5 y) 600 = -1 ∨ (0 ≤ b_lab (c_K B) (B 5) (B 5 y) 600 ∧ b_lab (c_K B) (B 5) (B 5 y) 600 < 600 ∧ c_K B (b_lab (c_K B) (B 5) (B 5 y) 600) = 1 ∧ B 5 (b_lab (c_K B) (B 5) (B 5 y) 600) = B 5 y) := b_lab_p 600
          rcases this with this | this
          · exact absurd this z
          · exact ⟨⟨this.1, this.2.1⟩, this.2.2.1⟩
        obtain ⟨k', _, k1, _, _, _, _, k6⟩ := gb _ lb.1 (c_K_there (by omega))
        have fb := c_fi_bd hB hp a1 (c := b_lab (c_K B) (B 5) (B 5 y) 600 / 200) (by omega)
        rw [k6]
        split
        · decide
        · split
          · decide
          · omega
    · have O18 : ∀ (k : Nat) (m s : Int), k ≠ 18 → ¬ (k = 2 ∧ m = 0 ∧ s = 10) → M3 k m s = M2 k m s := fun k m s q _ => O3 k m s (fun z => q z.1)
      have O11 : fr11 e M M3 := fr11_t (fr11_t O1 (fr11_of O2)) (fr11_18 O3)
      have hE3 := c_env_fr hE O11
      have ch' : c_chain B ob Bo Ro p0 (fun x => if x = r then R else Rq x) (r + 1) := fun t t0 t1 => by
        rw [c_Wq_cg (by omega)]
        by_cases q : t = r
        · rw [q]
          show c_out B (c_Wq B Rq r) ob Bo Ro p0 (if r = r then R else Rq r)
          rw [if_pos rfl]; exact a1
        · show c_out B (c_Wq B Rq t) ob Bo Ro p0 (if t = r then R else Rq t)
          rw [if_neg q]; exact hH1.1 t t0 (by omega)
      have wq' : c_Wq B (fun x => if x = r then R else Rq x) (r + 1) = c_W1 B R := by
        unfold c_Wq
        rw [if_neg (by omega), show r + 1 - 1 = r by omega]
        show c_W1 B (if r = r then R else Rq r) = _
        rw [if_pos rfl]
      have tk' : c_tk B (fun x => if x = r then R else Rq x) (r + 1) M3 := fun t y t0 t1 y0 y1 q => by
        by_cases z : t = r + 1
        · rw [z, wq', v3 y y0 y1 q]
          exact c_found a2 ⟨y0, y1⟩ q
        · rw [c_Wq_cg (by omega), O3 _ _ _ (by omega), O2 _ _ _ (by omega)]
          exact ht1 t y t0 (by omega) y0 y1 q
      have cnt' : M3 2 0 9 = c_cnt B at' wd (fun x => if x = r then R else Rq x) (r + 1) := by
        have e1 : c_cnt B at' wd (fun x => if x = r then R else Rq x) (r + 1) = c_cnt B at' wd (fun x => if x = r then R else Rq x) r + p_sum (c_rg B (c_at B at' r) (c_wd B wd (fun x => if x = r then R else Rq x) r) (c_Wq B (fun x => if x = r then R else Rq x) r)) 30 := p_sum_s r0
        have e2 : c_wd B wd (fun x => if x = r then R else Rq x) r = c_wd B wd Rq r := by
          unfold c_wd
          by_cases q : r ≤ 0
          · rw [if_pos q, if_pos q]
          · rw [if_neg q, if_neg q, c_Wq_cg (by omega)]
        rw [e1, c_cnt_cg r0, c_Wq_cg (Int.le_refl _), e2, O18 _ _ _ (by decide) (by omega), a5, hH1.2.1]
      have z3 : M3 2 0 10 = 0 := by rw [O3 _ _ _ (by omega), O2 _ _ _ (by omega)]; exact z1
      refine ⟨⟨by omega, by omega⟩, ⟨by omega, by omega⟩, t24 hS ⟨r0, r12⟩ (c_ls_180 hE3.2.2.1 h180) (fun v hv => ?_)⟩
      have hf := c_first_of hE3.2.2.1 tk' r0 hv
      have go' : c_go B (fun x => if x = r then R else Rq x) r := fun t t0 t1 => c_first_cg (by omega) (hgo t t0 t1)
      refine ⟨fun q => ⟨⟨by omega, by omega⟩, ?_⟩, fun q => ⟨⟨by omega, by omega⟩, ?_⟩⟩
      · refine H1 M3 R (c_Wq B Rq r) (r + 1) 0 _ O11 (Or.inl ⟨_, r, ⟨r0, r12⟩, ch', go', by rw [q] at hf; exact hf, rfl, rfl, (c_Wq_cg (Int.le_refl _)).symm, ?_, rfl⟩) (c_edm_10 a2 O18) (c_brkX_18 O18 a3) (c_st_18 O18 a4) z3 cnt'
        show R = if r = r then R else Rq r
        rw [if_pos rfl]
      · have hH3 : c_hd B ob Bo Ro p0 e (fun x => if x = r then R else Rq x) at' wd (r + 1) M3 := ⟨ch', cnt', c_st_18 O18 a4, fun _ => by
          rw [show r + 1 - 1 = r by omega, c_Wq_cg (Int.le_refl _)]
          show c_edm B (if r = r then R else Rq r) p0 e M3 ∧ _
          rw [if_pos rfl]
          exact ⟨c_edm_10 a2 O18, c_brkX_18 O18 a3⟩, fun q => by omega⟩
        by_cases vn : v = -1
        · rw [vn] at hf ⊢
          exact ih (by omega) _ M3 O11 z3 hH3 tk' (fun t t0 t1 => by
            by_cases z : t = r
            · rw [z]; exact hf
            · exact go' t t0 (by omega))
        · have hvb : 0 ≤ v := by
            rcases hf with hf | hf
            · exact absurd hf.1 vn
            · exact hf.1.1
          have last : b11n_106 d h F u1 u2 u3 v (r + 1) M3 := t11n_106 hS u1 u2 u3 hB h180 he hp hE3 hH3 tk' ⟨by omega, by omega⟩ (by rw [show r + 1 - 1 = r by omega]; exact go') (by rw [show r + 1 - 1 = r by omega]; exact hf) (by omega) (Or.inl vn) (fun M4 R W res s cnt O4 => H1 M4 R W res s cnt (fr11_t O11 O4)) (fun M4 W O4 => H0 M4 W (fr11_t O11 O4))
          exact w11n_35 hS ⟨fun _ => ⟨fun z => by omega, fun _ => last⟩, fun _ => last⟩
def frC (e : Int) (M M' : qM) : Prop := ∀ (k : Nat) (m s : Int), k ≠ 18 → k ≠ 16 → ¬ (k = 2 ∧ m = 0 ∧ 3 ≤ s) → ¬ (k = 35 ∨ k = 36 ∨ k = 37 ∨ ((k = 12 ∨ k = 13 ∨ k = 14 ∨ k = 19 ∨ k = 40 ∨ k = 41 ∨ k = 42) ∧ m = 0) ∨ (k = 2 ∧ m = 0 ∧ s = 9) ∨ (k = 5 ∧ (s = 8 ∨ s = 10 ∨ s = 11)) ∨ (k = 7 ∧ m = 0 ∧ 3 ≤ s ∧ s ≤ 12) ∨ (k = 3 ∧ m = e ∧ s = 4) ∨ (24 ≤ k ∧ k ≤ 26 ∧ m = e) ∨ ((1 + 3 * e ≤ m ∧ m < 1 + 3 * e + 3) ∧ ((k = 9 ∧ (s = 0 ∨ s = 12 ∨ s = 16 ∨ s = 17)) ∨ (48 ≤ k ∧ k ≤ 61))) ∨ ((0 + 3 * e ≤ m ∧ m < 0 + 3 * e + 3) ∧ ((k = 8 ∧ 0 ≤ s ∧ s ≤ 3) ∨ (43 ≤ k ∧ k ≤ 47)))) → M' k m s = M k m s
/-- what stands ahead of the rounds -/
def c_pre (B : pT) (ob : Prop) (Bo : pT) (Ro : c_R) (e e' p0 : Int) (at' wd : Int → Int) (M : qM) : Prop := c_bk B M ∧ (M 3 e 0 = B 8 0 ∧ M 3 e 1 = B 8 1 ∧ M 3 e 2 = B 8 2 ∧ M 3 e 3 = p0) ∧ (∀ x, 0 ≤ x → x < 30 → x % 10 < B 0 (x / 10) → M 23 e x = B 7 x) ∧ (¬ ob ∨ (ob ∧ (0 ≤ e' ∧ e ≠ e') ∧ c_om Bo Ro e' M ∧ ∀ L E, c_oldok B L E Bo Ro)) ∧ ((∀ it i, 0 ≤ M 32 it i ∧ M 32 it i ≤ 8) ∧ ∀ it, 0 ≤ M 5 it 2 ∧ M 5 it 2 ≤ 20) ∧ (c_bd M ∧ c_z e M ∧ c_brk B M ∧ c_35 B M) ∧ ∀ x, 0 ≤ x → x < 30 → x % 10 < B 0 (x / 10) → B 1 x = 0 → M 5 (1 + x) 8 = at' x ∧ ∀ j, 0 ≤ j → j < B 3 x → M 36 (1 + x) j = wd (20 * x + j)
theorem c_pre_hd {B : pT} {ob : Prop} {Bo : pT} {Ro : c_R} {Rq : Int → c_R} {e e' p0 : Int} {at' wd : Int → Int} {M M' : qM} (hP : c_pre B ob Bo Ro e e' p0 at' wd M) (h7 : M' 2 0 7 = e + 1) (h6 : 0 < M' 2 0 6) (h9 : M' 2 0 9 = 0) (h8 : (¬ ob ∧ M' 2 0 8 = 0) ∨ (ob ∧ M' 2 0 8 = e' + 1)) (O : ∀ (k : Nat) (m s : Int), ¬ (k = 2 ∧ m = 0 ∧ 3 ≤ s) → ¬ (k = 16 ∧ m = 0) → ¬ (k = 18 ∧ m = 0) → M' k m s = M k m s) (hli : b_li (c_K B) (b_w0 (c_K B) (B 8 2)) 600 M') : c_env B ob Bo Ro e e' p0 M' ∧ c_hd B ob Bo Ro p0 e Rq at' wd 0 M' ∧ c_tk B Rq 0 M' := by
  obtain ⟨p1, p2, p3, p4, p5, ⟨q1, q2, q3, q4⟩, p7⟩ := hP
  have O' : ∀ (k : Nat) (m s : Int), k ≠ 2 → k ≠ 16 → k ≠ 18 → M' k m s = M k m s := fun k m s a b c => O k m s (fun z => a z.1) (fun z => b z.1) (fun z => c z.1)
  refine ⟨⟨⟨h7, h6⟩, ⟨fun c a b => by rw [O' _ _ _ (by decide) (by decide) (by decide)]; exact p1.1 c a b, fun x a b => ?_, fun y a b => ?_⟩, ⟨hli.1, fun y a b c => (hli.2 y a b c).1⟩, ?_, fun x a b c => by rw [O' _ _ _ (by decide) (by decide) (by decide)]; exact p3 x a b c, ?_, fun it i => by rw [O' _ _ _ (by decide) (by decide) (by decide)]; exact p5.1 it i, fun it => by rw [O' _ _ _ (by decide) (by decide) (by decide)]; exact p5.2 it⟩, ⟨fun t a b => by omega, h9, ?_, fun q => absurd q (by decide), fun _ x a b c q => ?_⟩, fun t y t0 t1 y0 y1 q => ?_⟩
  · rw [O' _ _ _ (by decide) (by decide) (by decide), O' _ _ _ (by decide) (by decide) (by decide), O' _ _ _ (by decide) (by decide) (by decide), O' _ _ _ (by decide) (by decide) (by decide)]; exact p1.2.1 x a b
  · rw [O' _ _ _ (by decide) (by decide) (by decide), O' _ _ _ (by decide) (by decide) (by decide), O' _ _ _ (by decide) (by decide) (by decide)]; exact p1.2.2 y a b
  · rw [O' _ _ _ (by decide) (by decide) (by decide), O' _ _ _ (by decide) (by decide) (by decide), O' _ _ _ (by decide) (by decide) (by decide), O' _ _ _ (by decide) (by decide) (by decide)]; exact p2
  · rcases p4 with p4 | ⟨z1, z2, z3, z4⟩
    · rcases h8 with h8 | h8
      · exact Or.inl h8
      · exact absurd h8.1 p4
    · rcases h8 with h8 | h8
      · exact absurd z1 h8.1
      · exact Or.inr ⟨z1, z2, h8.2, c_om_fr z3 (fun k m s q => O k m s (by omega) (by omega) (by omega)), z4⟩
  · exact c_st_18 (M := M') (fun _ _ _ _ _ => rfl) ⟨⟨fun s => by rw [O' _ _ _ (by decide) (by decide) (by decide)]; exact q1.1 s, fun s => by rw [O' _ _ _ (by decide) (by decide) (by decide)]; exact q1.2 s⟩, fun c a b => by rw [O' _ _ _ (by decide) (by decide) (by decide), O' _ _ _ (by decide) (by decide) (by decide), O' _ _ _ (by decide) (by decide) (by decide), O' _ _ _ (by decide) (by decide) (by decide), O' _ _ _ (by decide) (by decide) (by decide)]; exact q2 c a b, ⟨fun x a b c => by
      have e36 : M' 36 (1 + x) = M 36 (1 + x) := by funext s; exact O' _ _ _ (by decide) (by decide) (by decide)
      have e37 : M' 37 (1 + x) = M 37 (1 + x) := by funext s; exact O' _ _ _ (by decide) (by decide) (by decide)
      rw [O' _ _ _ (by decide) (by decide) (by decide), O' _ _ _ (by decide) (by decide) (by decide), O' _ _ _ (by decide) (by decide) (by decide), e36, e37]
      exact q3.1 x a b c, fun x a b c => by rw [O' _ _ _ (by decide) (by decide) (by decide), O' _ _ _ (by decide) (by decide) (by decide)]; exact q3.2 x a b c⟩, fun it i => by rw [O' _ _ _ (by decide) (by decide) (by decide)]; exact q4.1 it i, fun y a b c => by rw [O' _ _ _ (by decide) (by decide) (by decide)]; exact q4.2 y a b c⟩
  · have := p7 x a b c q
    exact ⟨by rw [O' _ _ _ (by decide) (by decide) (by decide)]; exact this.1, fun j j0 j1 => by rw [O' _ _ _ (by decide) (by decide) (by decide)]; exact this.2 j j0 j1⟩
  · rw [show t = 0 by omega]
    exact (hli.2 y y0 y1 q).2
theorem frC_of {e : Int} {M M1 M2 : qM} (O : ∀ (k : Nat) (m s : Int), ¬ (k = 2 ∧ m = 0 ∧ 3 ≤ s) → ¬ (k = 16 ∧ m = 0) → ¬ (k = 18 ∧ m = 0) → M1 k m s = M k m s) (h : fr11 e M1 M2) : frC e M M2 := fun k m s a b c q => by
  rw [h k m s a (fun z => c ⟨z.1, z.2.1, by omega⟩) q]
  exact O k m s c (fun z => b z.1) (fun z => a z.1)
theorem t11 {d : Nat} {h : qH} (hS : qSe h) {B Bo : pT} {at' wd : Int → Int} {ob : Prop} {Ro : c_R} {e e' p0 : Int} {M : qM} {F : Int → qM → Prop}
    (hB : c_ok B) (h180 : b_n (c_K B) 600 ≤ 180) (he : 0 ≤ e ∧ e < 1000) (he' : 0 ≤ e' ∧ e' < 1000) (hob : ob) (hp : 0 ≤ p0 ∧ p0 ≤ 100) (hP : c_pre B ob Bo Ro e e' p0 at' wd M)
    (H1 : ∀ M' R W res set' cnt, frC e M M' → c_comp B ob Bo Ro p0 at' wd W R res set' cnt → c_edm B R p0 e M' → c_brkX B W M' → (c_bd M' ∧ c_z e M' ∧ c_brk B M' ∧ c_35 B M') → M' 2 0 10 = set' → M' 2 0 9 = cnt → F res M')
    (H0 : ∀ M' W, frC e M M' → c_ncomp B ob Bo Ro p0 W → ((c_bd M' ∧ c_z e M' ∧ c_brk B M' ∧ c_35 B M') ∧ c_brkW B W M') → F (-1) M') : e11 (d + 7) h e e' M F := by
  have b1 := hB.1
  refine w11 hS (fun M1 f1 => ⟨by omega, fun M2 f2 => ⟨by omega, fun M3 f3 M4 f4 M5 f5 => ?_⟩⟩)
  have O : ∀ (k : Nat) (m s : Int), ¬ (k = 2 ∧ m = 0 ∧ 3 ≤ s) → M5 k m s = M k m s := fun k m s q => by
    rw [f5, f4, f3, f2, f1]; unfold qU
    rw [if_neg (by omega), if_neg (by omega), if_neg (by omega), if_neg (by omega), if_neg (by omega)]
  have v10 : M5 2 0 10 = 0 := by rw [f5, qU_s]
  have v9 : M5 2 0 9 = 0 := by rw [f5, qU_l (by decide), f4, qU_s]
  have v8 : M5 2 0 8 = e' + 1 := by rw [f5, qU_l (by decide), f4, qU_l (by decide), f3, qU_s]
  have v7 : M5 2 0 7 = e + 1 := by rw [f5, qU_l (by decide), f4, qU_l (by decide), f3, qU_l (by decide), f2, qU_s]
  have v6 : M5 2 0 6 = 0 + 1 := by rw [f5, qU_l (by decide), f4, qU_l (by decide), f3, qU_l (by decide), f2, qU_l (by decide), f1, qU_s]
  have O' : ∀ (k : Nat) (m s : Int), k ≠ 2 → M5 k m s = M k m s := fun k m s q => O k m s (fun z => q z.1)
  have bk5 : c_bk B M5 := ⟨fun c a b => by rw [O' _ _ _ (by decide)]; exact hP.1.1 c a b, fun x a b => by rw [O' _ _ _ (by decide), O' _ _ _ (by decide), O' _ _ _ (by decide), O' _ _ _ (by decide)]; exact hP.1.2.1 x a b, fun y a b => by rw [O' _ _ _ (by decide), O' _ _ _ (by decide), O' _ _ _ (by decide)]; exact hP.1.2.2 y a b⟩
  refine t14 hS (c_bk_cw bk5) (by rw [v6]; decide) he.1 v7 (fun c a b => by rw [bk5.1 c a b]; exact (b1 c a b).1) (fun it => by rw [O' _ _ _ (by decide)]; exact hP.2.2.2.2.1.2 it) h180 (fun M6 O6 hli => ?_)
  rw [O' 3 _ _ (by decide), hP.2.1.2.2.1] at hli
  have O56 : ∀ (k : Nat) (m s : Int), ¬ (k = 2 ∧ m = 0 ∧ 3 ≤ s) → ¬ (k = 16 ∧ m = 0) → ¬ (k = 18 ∧ m = 0) → M6 k m s = M k m s := fun k m s a b c => by rw [O6 k m s (by omega)]; exact O k m s a
  obtain ⟨hE, hH, ht⟩ := c_pre_hd (Rq := fun _ => (fun _ => 0, fun _ => 0, fun _ _ => 0, fun _ => (fun _ _ => 0, 0, 0, 0, 0))) hP (M' := M6) (by rw [O6 _ _ _ (by omega)]; exact v7) (by rw [O6 _ _ _ (by omega), v6]; decide) (by rw [O6 _ _ _ (by omega)]; exact v9) (Or.inr ⟨hob, by rw [O6 _ _ _ (by omega)]; exact v8⟩) O56 hli
  exact t11_35 hS _ _ _ hB h180 he hp hE hH ht (by rw [O6 _ _ _ (by omega)]; exact v10) (fun M' R W res s cnt O7 => H1 M' R W res s cnt (frC_of O56 O7)) (fun M' W O7 => H0 M' W (frC_of O56 O7))
theorem t11n {d : Nat} {h : qH} (hS : qSe h) {B Bo : pT} {at' wd : Int → Int} {ob : Prop} {Ro : c_R} {e e' p0 : Int} {M : qM} {F : Int → qM → Prop}
    (hB : c_ok B) (h180 : b_n (c_K B) 600 ≤ 180) (he : 0 ≤ e ∧ e < 1000) (hob : ¬ ob) (hp : 0 ≤ p0 ∧ p0 ≤ 100) (hP : c_pre B ob Bo Ro e e' p0 at' wd M)
    (H1 : ∀ M' R W res set' cnt, frC e M M' → c_comp B ob Bo Ro p0 at' wd W R res set' cnt → c_edm B R p0 e M' → c_brkX B W M' → (c_bd M' ∧ c_z e M' ∧ c_brk B M' ∧ c_35 B M') → M' 2 0 10 = set' → M' 2 0 9 = cnt → F res M')
    (H0 : ∀ M' W, frC e M M' → c_ncomp B ob Bo Ro p0 W → ((c_bd M' ∧ c_z e M' ∧ c_brk B M' ∧ c_35 B M') ∧ c_brkW B W M') → F (-1) M') : e11n (d + 7) h e M F := by
  have b1 := hB.1
  refine w11n hS (fun M1 f1 => ⟨by omega, fun M2 f2 M3 f3 M4 f4 M5 f5 => ?_⟩)
  have O : ∀ (k : Nat) (m s : Int), ¬ (k = 2 ∧ m = 0 ∧ 3 ≤ s) → M5 k m s = M k m s := fun k m s q => by
    rw [f5, f4, f3, f2, f1]; unfold qU
    rw [if_neg (by omega), if_neg (by omega), if_neg (by omega), if_neg (by omega), if_neg (by omega)]
  have v10 : M5 2 0 10 = 0 := by rw [f5, qU_s]
  have v9 : M5 2 0 9 = 0 := by rw [f5, qU_l (by decide), f4, qU_s]
  have v8 : M5 2 0 8 = 0 := by rw [f5, qU_l (by decide), f4, qU_l (by decide), f3, qU_s]
  have v7 : M5 2 0 7 = e + 1 := by rw [f5, qU_l (by decide), f4, qU_l (by decide), f3, qU_l (by decide), f2, qU_s]
  have v6 : M5 2 0 6 = 0 + 1 := by rw [f5, qU_l (by decide), f4, qU_l (by decide), f3, qU_l (by decide), f2, qU_l (by decide), f1, qU_s]
  have O' : ∀ (k : Nat) (m s : Int), k ≠ 2 → M5 k m s = M k m s := fun k m s q => O k m s (fun z => q z.1)
  have bk5 : c_bk B M5 := ⟨fun c a b => by rw [O' _ _ _ (by decide)]; exact hP.1.1 c a b, fun x a b => by rw [O' _ _ _ (by decide), O' _ _ _ (by decide), O' _ _ _ (by decide), O' _ _ _ (by decide)]; exact hP.1.2.1 x a b, fun y a b => by rw [O' _ _ _ (by decide), O' _ _ _ (by decide), O' _ _ _ (by decide)]; exact hP.1.2.2 y a b⟩
  refine t14 hS (c_bk_cw bk5) (by rw [v6]; decide) he.1 v7 (fun c a b => by rw [bk5.1 c a b]; exact (b1 c a b).1) (fun it => by rw [O' _ _ _ (by decide)]; exact hP.2.2.2.2.1.2 it) h180 (fun M6 O6 hli => ?_)
  rw [O' 3 _ _ (by decide), hP.2.1.2.2.1] at hli
  have O56 : ∀ (k : Nat) (m s : Int), ¬ (k = 2 ∧ m = 0 ∧ 3 ≤ s) → ¬ (k = 16 ∧ m = 0) → ¬ (k = 18 ∧ m = 0) → M6 k m s = M k m s := fun k m s a b c => by rw [O6 k m s (by omega)]; exact O k m s a
  obtain ⟨hE, hH, ht⟩ := c_pre_hd (Rq := fun _ => (fun _ => 0, fun _ => 0, fun _ _ => 0, fun _ => (fun _ _ => 0, 0, 0, 0, 0))) hP (M' := M6) (by rw [O6 _ _ _ (by omega)]; exact v7) (by rw [O6 _ _ _ (by omega), v6]; decide) (by rw [O6 _ _ _ (by omega)]; exact v9) (Or.inl ⟨hob, by rw [O6 _ _ _ (by omega)]; exact v8⟩) O56 hli
  exact t11n_35 hS _ _ _ hB h180 he hp hE hH ht (by rw [O6 _ _ _ (by omega)]; exact v10) (fun M' R W res s cnt O7 => H1 M' R W res s cnt (frC_of O56 O7)) (fun M' W O7 => H0 M' W (frC_of O56 O7))
