/-! ===== Composer.makeRounds, its loop ===== -/
theorem b_mx_cg {g g' : Int → Int} {a b : Int} (hab : a ≤ b) (h : ∀ r, a ≤ r → r < b → g' r = g r) : b_mx g' a b = b_mx g a b := by
  unfold b_mx
  have st : ∀ k : Nat, a + k ≤ b → b_mxN g' a k = b_mxN g a k := by
    intro k
    induction k with
    | zero => intro _; rfl
    | succ k ih =>
      intro hk
      show (if b_mxN g' a k ≤ g' (a + k) then g' (a + k) else b_mxN g' a k) = if b_mxN g a k ≤ g (a + k) then g (a + k) else b_mxN g a k
      rw [ih (by omega), h (a + k) (by omega) (by omega)]
  exact st _ (by omega)
theorem fr11_10 {e : Int} {M M' : qM} {x : Int} (h : M' = qU M 2 0 10 x) : fr11 e M M' ∧ (∀ (k : Nat) (m s : Int), k ≠ 18 → ¬ (k = 2 ∧ m = 0 ∧ s = 10) → M' k m s = M k m s) ∧ M' 2 0 10 = x := by
  have O : ∀ (k : Nat) (m s : Int), ¬ (k = 2 ∧ m = 0 ∧ s = 10) → M' k m s = M k m s := fun k m s q => by rw [h]; unfold qU; rw [if_neg q]
  exact ⟨fun k m s _ q _ => O k m s q, fun k m s _ q => O k m s q, by rw [h, qU_s]⟩
theorem c_edm_10 {B : pT} {R : c_R} {p0 e : Int} {M M' : qM} (h : c_edm B R p0 e M) (O : ∀ (k : Nat) (m s : Int), k ≠ 18 → ¬ (k = 2 ∧ m = 0 ∧ s = 10) → M' k m s = M k m s) : c_edm B R p0 e M' := by
  refine ⟨fun x a b => ?_, fun c a b => c_ch_fr (h.2.1 c a b) (fun k s _ => O _ _ _ (by omega) (by omega)) (fun k s _ => O _ _ _ (by omega) (by omega)), by rw [O _ _ _ (by decide) (by omega)]; exact h.2.2.1, fun y a b c => ?_⟩
  · have := h.1 x a b
    exact ⟨by rw [O _ _ _ (by decide) (by omega)]; exact this.1, by rw [O _ _ _ (by decide) (by omega)]; exact this.2.1, fun s => by rw [O _ _ _ (by decide) (by omega)]; exact this.2.2 s⟩
  · rw [O _ _ _ (by decide) (by omega), O _ _ _ (by decide) (by omega), O _ _ _ (by decide) (by omega)]; exact h.2.2.2 y a b c
theorem c_ls_180 {B : pT} {M : qM} (h : b_ls (c_K B) M) (h180 : b_n (c_K B) 600 ≤ 180) : 0 ≤ M 2 0 3 ∧ M 2 0 3 ≤ 180 := by
  rw [h.1]
  exact ⟨(p_sum_bd (g := b_ch (c_K B)) (b := 1) (fun k => b_ch_b) (show (0 : Int) ≤ 600 by decide)).1, h180⟩
--BEGIN
theorem t11_106 {d : Nat} {h : qH} (hS : qSe h) {B Bo : pT} {at' wd : Int → Int} {ob : Prop} {Ro : c_R} {Rq : Int → c_R} {e e' n v p0 : Int} {M : qM} {F : Int → qM → Prop} (u1 u2 u3 : qV)
    (hB : c_ok B) (h180 : b_n (c_K B) 600 ≤ 180) (he : 0 ≤ e ∧ e < 1000) (hp : 0 ≤ p0 ∧ p0 ≤ 100) (hE : c_env B ob Bo Ro e e' p0 M) (hH : c_hd B ob Bo Ro p0 e Rq at' wd n M) (ht : c_tk B Rq n M) (hn : 1 ≤ n ∧ n ≤ 12) (hgo : c_go B Rq (n - 1)) (hf : c_first B Rq (n - 1) v) (hv : v ≠ n - 1) (hv2 : v ≠ -1 ∨ n = 12)
    (H1 : ∀ M' R W res set' cnt, fr11 e M M' → c_comp B ob Bo Ro p0 at' wd W R res set' cnt → c_edm B R p0 e M' → c_brkX B W M' → (c_bd M' ∧ c_z e M' ∧ c_brk B M' ∧ c_35 B M') → M' 2 0 10 = set' → M' 2 0 9 = cnt → F res M')
    (H0 : ∀ M' W, fr11 e M M' → c_ncomp B ob Bo Ro p0 W → ((c_bd M' ∧ c_z e M' ∧ c_brk B M' ∧ c_35 B M') ∧ c_brkW B W M') → F (-1) M') : b11_106 d h F u1 u2 u3 v n M := by
  have hvb : v = -1 ∨ (0 ≤ v ∧ v < n) := by
    unfold c_first at hf
    rw [show n - 1 + 1 = n by omega] at hf
    rcases hf with hf | hf
    · exact Or.inl hf.1
    · exact Or.inr hf.1
  have ls := hE.2.2.1
  have l180 := c_ls_180 ls h180
  refine w11_106 hS (fun x hx => ?_)
  have hxb : 0 ≤ x ∧ x < n := by rw [hx]; split <;> omega
  refine t12 hS ⟨hxb.1, by omega, by omega⟩ l180 (fun M1 O1 v1 => ?_)
  have O11 := fr11_18 (e := e) O1
  have O18 : ∀ (k : Nat) (m s : Int), k ≠ 18 → ¬ (k = 2 ∧ m = 0 ∧ s = 10) → M1 k m s = M k m s := fun k m s q _ => O1 k m s (fun z => q z.1)
  have hH1 : c_hd B ob Bo Ro p0 e Rq at' wd n M1 := ⟨hH.1, by rw [O18 _ _ _ (by decide) (by omega)]; exact hH.2.1, c_st_18 O18 hH.2.2.1, fun q => ⟨c_edm_10 (hH.2.2.2.1 q).1 O18, c_brkX_18 O18 (hH.2.2.2.1 q).2⟩, fun q => by omega⟩
  have cnt1 := hH1.2.1
  refine t11_e16 hS (W := c_wide B Rq x n) hB h180 he hp (c_env_fr hE O11) hH1 ⟨by omega, by omega⟩ (fun y y0 y1 q => ?_) (fun y => c_wide_b (by omega) y) (fun M2 R O2 a1 a2 a3 a4 a5 => ⟨Or.inr rfl, fun M3 f3 => ⟨fun _ => ⟨by omega, by omega⟩, fun z hz => ?_⟩⟩) (fun M2 O2 a1 a4 => ⟨Or.inl rfl, fun M3 f3 => ⟨fun _ => ⟨by omega, by omega⟩, fun z hz => ?_⟩⟩)
  · have m0 : 0 ≤ b_n (c_K B) y := (p_sum_bd (g := b_ch (c_K B)) (b := 1) (fun k => b_ch_b) y0).1
    have m1 : b_n (c_K B) y + b_ch (c_K B) y ≤ b_n (c_K B) 600 := p_sum_lt (fun x _ _ => b_ch_b.1) y0 y1
    rw [v1 _ m0 (by rw [ls.1]; omega)]
    exact b_mx_cg (by omega) (fun r r0 r1 => ht r y (by omega) (by omega) y0 y1 q)
  · obtain ⟨O3, O3', v3⟩ := fr11_10 (e := e) f3
    rw [v3, if_neg (by decide)] at hz
    rw [hz]
    refine H1 M3 R (c_wide B Rq x n) (n + 1) 1 _ (fr11_t (fr11_t O11 (fr11_of O2)) O3) (Or.inr ⟨Rq, n, v, hn, hH.1, hgo, hf, hv, hv2, by rw [hx], a1, rfl, rfl, rfl⟩) (c_edm_10 a2 O3') (c_brkX_18 O3' a3) (c_st_18 O3' a4) v3 ?_
    rw [O3' _ _ _ (by decide) (by omega), a5, cnt1]
  · obtain ⟨O3, O3', v3⟩ := fr11_10 (e := e) f3
    rw [v3, if_pos rfl] at hz
    rw [hz]
    exact H0 M3 (c_wide B Rq x n) (fr11_t (fr11_t O11 (fr11_of O2)) O3) (Or.inr ⟨Rq, n, v, hn, hH.1, hgo, hf, hv, hv2, by rw [← hx]; exact a1, by rw [hx]⟩) ⟨c_st_18 O3' a4.1, c_brkW_18 O3' a4.2⟩
theorem t11_35 {d : Nat} {h : qH} (hS : qSe h) {B Bo : pT} {at' wd : Int → Int} {ob : Prop} {Ro : c_R} {Rq0 : Int → c_R} {e e' p0 : Int} {M : qM} {F : Int → qM → Prop} (u1 u2 u3 : qV)
    (hB : c_ok B) (h180 : b_n (c_K B) 600 ≤ 180) (he : 0 ≤ e ∧ e < 1000) (hp : 0 ≤ p0 ∧ p0 ≤ 100) (hE : c_env B ob Bo Ro e e' p0 M) (hH : c_hd B ob Bo Ro p0 e Rq0 at' wd 0 M) (ht : c_tk B Rq0 0 M) (h10 : M 2 0 10 = 0)
    (H1 : ∀ M' R W res set' cnt, fr11 e M M' → c_comp B ob Bo Ro p0 at' wd W R res set' cnt → c_edm B R p0 e M' → c_brkX B W M' → (c_bd M' ∧ c_z e M' ∧ c_brk B M' ∧ c_35 B M') → M' 2 0 10 = set' → M' 2 0 9 = cnt → F res M')
    (H0 : ∀ M' W, fr11 e M M' → c_ncomp B ob Bo Ro p0 W → ((c_bd M' ∧ c_z e M' ∧ c_brk B M' ∧ c_35 B M') ∧ c_brkW B W M') → F (-1) M') : b11_35 d h F u1 u2 u3 (-1) 0 M := by
  refine q_upto (P := fun r => 0 ≤ r → ∀ Rq M1, fr11 e M M1 → M1 2 0 10 = 0 → c_hd B ob Bo Ro p0 e Rq at' wd r M1 → c_tk B Rq r M1 → c_go B Rq r → b11_35 d h F u1 u2 u3 (-1) r M1) (a := 0) (b := 12) (by decide) (fun _ Rq M1 O1 z1 hH1 ht1 hgo => ?_) (fun r r0 r12 ih _ Rq M1 O1 z1 hH1 ht1 hgo => ?_) (Int.le_refl _) Rq0 M (fun _ _ _ _ _ _ => rfl) h10 hH ht (fun t a b => by omega)
  · refine w11_35 hS ⟨fun q => absurd q (by decide), fun _ => ?_⟩
    exact t11_106 hS u1 u2 u3 hB h180 he hp (c_env_fr hE O1) hH1 ht1 (by decide) (fun t a b => hgo t a (by omega)) (hgo 11 (by decide) (by decide)) (by decide) (Or.inr rfl) (fun M2 R W res s cnt O2 => H1 M2 R W res s cnt (fr11_t O1 O2)) (fun M2 W O2 => H0 M2 W (fr11_t O1 O2))
  · have hE1 := c_env_fr hE O1
    refine w11_35 hS ⟨fun _ => ⟨fun _ => ?_, fun q => absurd (show (-1 : Int) < 0 by decide) q⟩, fun q => absurd r12 q⟩
    refine t11_e16 hS (W := c_Wq B Rq r) hB h180 he hp hE1 hH1 ⟨by omega, by omega⟩ (fun y y0 y1 q => ht1 r y r0 (Int.le_refl _) y0 y1 q) (fun y => c_Wq_b y) (fun M2 R O2 a1 a2 a3 a4 a5 => ⟨fun q => absurd q (by decide), fun _ => ⟨⟨by omega, by omega⟩, ⟨by omega, by omega⟩, ?_⟩⟩) (fun M2 O2 a1 a4 => ⟨fun _ => H0 M2 _ (fr11_t O1 (fr11_of O2)) (Or.inl ⟨Rq, r, ⟨r0, r12⟩, hH1.1, hgo, a1, rfl⟩) a4, fun q => absurd rfl q⟩)
    have hE2 := c_env_fr hE1 (fr11_of O2)
    obtain ⟨⟨g1, g2⟩, g3, g4, g5, g6, g7, g8, g9⟩ := id hE2
    have gb := fun y => c_G_ex (y := y) hB a1
    refine t23 hS (c_bk_cw g3) g4 g2 he.1 g1 h180 (fun y y0 y1 k => ?_) (fun M3 O3 v3 => ?_)
    · have w := (a2.2.2.2 y y0 y1 (c_K_there (by omega))).2.2
      rw [w, if_pos k]
      unfold b_text b_tf
      by_cases z : b_lab (c_K B) (B 5) (B 5 y) 600 = -1
      · rw [if_pos z]; decide
      · rw [if_neg z]
        have lb : (0 ≤ b_lab (c_K B) (B 5) (B 5 y) 600 ∧ b_lab (c_K B) (B 5) (B 5 y) 600 < 600) ∧ c_K B (b_lab (c_K B) (B 5) (B 5 y) 600) = 1 := by
          have : b_lab (c_K B) (B 5) (B 5 y) 600 = -1 ∨ (0 ≤ b_lab (c_K B) (B 5) (B 5 y) 600 ∧ b_lab (c_K B) (B 5) (B 5 y) 600 < 600 ∧ c_K B (b_lab (c_K B) (B 5) (B 5 y) 600) = 1 ∧ B 5 (b_lab (c_K B) (B 5) (B 5 y) 600) = B 5 y) := b_lab_p 600
          rcases this with this | this
          · exact absurd this z
          · exact ⟨⟨this.1, this.2.1⟩, this.2.2.1⟩
        obtain ⟨k', _, k1, _, _, _, _, k6⟩ := gb _ lb.1 (c_K_there (by omega))
        have fb := c_fi_bd hB hp a1 (c := b_lab (c_K B) (B 5) (B 5 y) 600 / 200) (by omega)
        rw [k6]
        split
        · decide
        · split
          · decide
          · omega
    · have O18 : ∀ (k : Nat) (m s : Int), k ≠ 18 → ¬ (k = 2 ∧ m = 0 ∧ s = 10) → M3 k m s = M2 k m s := fun k m s q _ => O3 k m s (fun z => q z.1)
      have O11 : fr11 e M M3 := fr11_t (fr11_t O1 (fr11_of O2)) (fr11_18 O3)
      have hE3 := c_env_fr hE O11
      have ch' : c_chain B ob Bo Ro p0 (fun x => if x = r then R else Rq x) (r + 1) := fun t t0 t1 => by
        rw [c_Wq_cg (by omega)]
        by_cases q : t = r
        · rw [q]
          show c_out B (c_Wq B Rq r) ob Bo Ro p0 (if r = r then R else Rq r)
          rw [if_pos rfl]; exact a1
        · show c_out B (c_Wq B Rq t) ob Bo Ro p0 (if t = r then R else Rq t)
          rw [if_neg q]; exact hH1.1 t t0 (by omega)
      have wq' : c_Wq B (fun x => if x = r then R else Rq x) (r + 1) = c_W1 B R := by
        unfold c_Wq
        rw [if_neg (by omega), show r + 1 - 1 = r by omega]
        show c_W1 B (if r = r then R else Rq r) = _
        rw [if_pos rfl]
      have tk' : c_tk B (fun x => if x = r then R else Rq x) (r + 1) M3 := fun t y t0 t1 y0 y1 q => by
        by_cases z : t = r + 1
        · rw [z, wq', v3 y y0 y1 q]
          exact c_found a2 ⟨y0, y1⟩ q
        · rw [c_Wq_cg (by omega), O3 _ _ _ (by omega), O2 _ _ _ (by omega)]
          exact ht1 t y t0 (by omega) y0 y1 q
      have cnt' : M3 2 0 9 = c_cnt B at' wd (fun x => if x = r then R else Rq x) (r + 1) := by
        have e1 : c_cnt B at' wd (fun x => if x = r then R else Rq x) (r + 1) = c_cnt B at' wd (fun x => if x = r then R else Rq x) r + p_sum (c_rg B (c_at B at' r) (c_wd B wd (fun x => if x = r then R else Rq x) r) (c_Wq B (fun x => if x = r then R else Rq x) r)) 30 := p_sum_s r0
        have e2 : c_wd B wd (fun x => if x = r then R else Rq x) r = c_wd B wd Rq r := by
          unfold c_wd
          by_cases q : r ≤ 0
          · rw [if_pos q, if_pos q]
          · rw [if_neg q, if_neg q, c_Wq_cg (by omega)]
        rw [e1, c_cnt_cg r0, c_Wq_cg (Int.le_refl _), e2, O18 _ _ _ (by decide) (by omega), a5, hH1.2.1]
      have z3 : M3 2 0 10 = 0 := by rw [O3 _ _ _ (by omega), O2 _ _ _ (by omega)]; exact z1
      refine ⟨⟨by omega, by omega⟩, ⟨by omega, by omega⟩, t24 hS ⟨r0, r12⟩ (c_ls_180 hE3.2.2.1 h180) (fun v hv => ?_)⟩
      have hf := c_first_of hE3.2.2.1 tk' r0 hv
      have go' : c_go B (fun x => if x = r then R else Rq x) r := fun t t0 t1 => c_first_cg (by omega) (hgo t t0 t1)
      refine ⟨fun q => ⟨⟨by omega, by omega⟩, ?_⟩, fun q => ⟨⟨by omega, by omega⟩, ?_⟩⟩
      · refine H1 M3 R (c_Wq B Rq r) (r + 1) 0 _ O11 (Or.inl ⟨_, r, ⟨r0, r12⟩, ch', go', by rw [q] at hf; exact hf, rfl, rfl, (c_Wq_cg (Int.le_refl _)).symm, ?_, rfl⟩) (c_edm_10 a2 O18) (c_brkX_18 O18 a3) (c_st_18 O18 a4) z3 cnt'
        show R = if r = r then R else Rq r
        rw [if_pos rfl]
      · have hH3 : c_hd B ob Bo Ro p0 e (fun x => if x = r then R else Rq x) at' wd (r + 1) M3 := ⟨ch', cnt', c_st_18 O18 a4, fun _ => by
          rw [show r + 1 - 1 = r by omega, c_Wq_cg (Int.le_refl _)]
          show c_edm B (if r = r then R else Rq r) p0 e M3 ∧ _
          rw [if_pos rfl]
          exact ⟨c_edm_10 a2 O18, c_brkX_18 O18 a3⟩, fun q => by omega⟩
        by_cases vn : v = -1
        · rw [vn] at hf ⊢
          exact ih (by omega) _ M3 O11 z3 hH3 tk' (fun t t0 t1 => by
            by_cases z : t = r
            · rw [z]; exact hf
            · exact go' t t0 (by omega))
        · have hvb : 0 ≤ v := by
            rcases hf with hf | hf
            · exact absurd hf.1 vn
            · exact hf.1.1
          have last : b11_106 d h F u1 u2 u3 v (r + 1) M3 := t11_106 hS u1 u2 u3 hB h180 he hp hE3 hH3 tk' ⟨by omega, by omega⟩ (by rw [show r + 1 - 1 = r by omega]; exact go') (by rw [show r + 1 - 1 = r by omega]; exact hf) (by omega) (Or.inl vn) (fun M4 R W res s cnt O4 => H1 M4 R W res s cnt (fr11_t O11 O4)) (fun M4 W O4 => H0 M4 W (fr11_t O11 O4))
          exact w11_35 hS ⟨fun _ => ⟨fun z => by omega, fun _ => last⟩, fun _ => last⟩
