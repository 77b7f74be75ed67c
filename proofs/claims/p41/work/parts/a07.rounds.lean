/-! ===== Composer.makeRounds ===== -/
def c_brkX (B : pT) (W : Int → Int) (M : qM) : Prop := c_brkW B W M ∧ ∀ y, 0 ≤ y → y < 600 → M 35 (1 + y / 20) (y % 20) = W y
def c_hd (B : pT) (ob : Prop) (Bo : pT) (Ro : c_R) (p0 e : Int) (Rq : Int → c_R) (at' wd : Int → Int) (n : Int) (M : qM) : Prop := c_chain B ob Bo Ro p0 Rq n ∧ M 2 0 9 = c_cnt B at' wd Rq n ∧ (c_bd M ∧ c_z e M ∧ c_brk B M ∧ c_35 B M) ∧ (0 < n → c_edm B (Rq (n - 1)) p0 e M ∧ c_brkX B (c_Wq B Rq (n - 1)) M) ∧ (n = 0 → ∀ x, 0 ≤ x → x < 30 → x % 10 < B 0 (x / 10) → B 1 x = 0 → M 5 (1 + x) 8 = at' x ∧ ∀ j, 0 ≤ j → j < B 3 x → M 36 (1 + x) j = wd (20 * x + j))
def c_tk (B : pT) (Rq : Int → c_R) (n : Int) (M : qM) : Prop := ∀ t y, 0 ≤ t → t ≤ n → 0 ≤ y → y < 600 → b_ch (c_K B) y = 1 → M 18 t (b_n (c_K B) y) = c_Wq B Rq t y
def c_comp (B : pT) (ob : Prop) (Bo : pT) (Ro : c_R) (p0 : Int) (at' wd : Int → Int) (W : Int → Int) (R : c_R) (res set' cnt : Int) : Prop :=
  (∃ Rq r, (0 ≤ r ∧ r < 12) ∧ c_chain B ob Bo Ro p0 Rq (r + 1) ∧ c_go B Rq r ∧ c_first B Rq r r ∧ res = r + 1 ∧ set' = 0 ∧ W = c_Wq B Rq r ∧ R = Rq r ∧ cnt = c_cnt B at' wd Rq (r + 1)) ∨
  (∃ Rq n v, (1 ≤ n ∧ n ≤ 12) ∧ c_chain B ob Bo Ro p0 Rq n ∧ c_go B Rq (n - 1) ∧ c_first B Rq (n - 1) v ∧ v ≠ n - 1 ∧ (v ≠ -1 ∨ n = 12) ∧ W = c_wide B Rq (if v < 0 then 0 else v) n ∧ c_out B W ob Bo Ro p0 R ∧ res = n + 1 ∧ set' = 1 ∧ cnt = c_cnt B at' wd Rq n + p_sum (c_rg B (c_at B at' n) (c_wd B wd Rq n) W) 30)
def c_ncomp (B : pT) (ob : Prop) (Bo : pT) (Ro : c_R) (p0 : Int) (W : Int → Int) : Prop :=
  (∃ Rq r, (0 ≤ r ∧ r < 12) ∧ c_chain B ob Bo Ro p0 Rq r ∧ c_go B Rq r ∧ c_fail B (c_Wq B Rq r) ob Bo Ro p0 ∧ W = c_Wq B Rq r) ∨
  (∃ Rq n v, (1 ≤ n ∧ n ≤ 12) ∧ c_chain B ob Bo Ro p0 Rq n ∧ c_go B Rq (n - 1) ∧ c_first B Rq (n - 1) v ∧ v ≠ n - 1 ∧ (v ≠ -1 ∨ n = 12) ∧ c_fail B (c_wide B Rq (if v < 0 then 0 else v) n) ob Bo Ro p0 ∧ W = c_wide B Rq (if v < 0 then 0 else v) n)
theorem t11_e16 {d : Nat} {h : qH} (hS : qSe h) {B Bo : pT} {W at' wd : Int → Int} {ob : Prop} {Ro : c_R} {Rq : Int → c_R} {e e' n p0 : Int} {M : qM} {f : Int → qM → Prop}
    (hB : c_ok B) (h180 : b_n (c_K B) 600 ≤ 180) (he : 0 ≤ e ∧ e < 1000) (hp : 0 ≤ p0 ∧ p0 ≤ 100) (hE : c_env B ob Bo Ro e e' p0 M) (hH : c_hd B ob Bo Ro p0 e Rq at' wd n M) (hn : 0 ≤ n ∧ n < 13)
    (h18 : ∀ y, 0 ≤ y → y < 600 → b_ch (c_K B) y = 1 → M 18 n (b_n (c_K B) y) = W y) (hW : ∀ y, (0 ≤ W y ∧ W y ≤ 8) ∧ (b_ch (c_K B) y = 0 → W y = 0))
    (H1 : ∀ M' R, fr16r e M M' → c_out B W ob Bo Ro p0 R → c_edm B R p0 e M' → c_brkX B W M' → (c_bd M' ∧ c_z e M' ∧ c_brk B M' ∧ c_35 B M') → M' 2 0 9 = M 2 0 9 + p_sum (c_rg B (c_at B at' n) (c_wd B wd Rq n) W) 30 → f 1 M')
    (H0 : ∀ M', fr16r e M M' → c_fail B W ob Bo Ro p0 → ((c_bd M' ∧ c_z e M' ∧ c_brk B M' ∧ c_35 B M') ∧ c_brkW B W M') → f 0 M') : e16 (d + 6) h n M f := by
  obtain ⟨⟨g1, g2⟩, g3, g4, g5, g6, g7, g8, g9⟩ := hE
  obtain ⟨k1, k2, ⟨k3, k4, k5, k6⟩, k7, k8⟩ := hH
  have cb := c_cnt_b (B := B) (at' := at') (wd := wd) (Rq := Rq) hn.1
  have n20 := hB.2.1
  have rg : p_sum (c_rg B (fun x => M 5 (1 + x) 8) (fun y => M 36 (1 + y / 20) (y % 20)) W) 30 = p_sum (c_rg B (c_at B at' n) (c_wd B wd Rq n) W) 30 := by
    refine p_sum_cg (by decide) (fun x x0 x1 => (c_rg_cg (fun x x0 x1 real q => ?_) x x0 x1))
    have nx := n20 x
    have e36 : ∀ j, 0 ≤ j → j < B 3 x → M 36 (1 + (20 * x + j) / 20) ((20 * x + j) % 20) = M 36 (1 + x) j := fun j a b => by rw [show (20 * x + j) / 20 = x by omega, show (20 * x + j) % 20 = j by omega]
    by_cases z : n = 0
    · have := k8 z x x0 x1 real q
      unfold c_at c_wd
      rw [if_pos (by omega), if_pos (by omega)]
      exact ⟨this.1, fun j a b => (e36 j a b).trans (this.2 j a b)⟩
    · have := (k7 (by omega)).2.1 x x0 x1 real q
      unfold c_at c_wd
      rw [if_neg (by omega), if_neg (by omega)]
      exact ⟨this.1, fun j a b => (e36 j a b).trans (this.2 j a b)⟩
  have p35 : ∀ M' : qM, (∀ y, 0 ≤ y → y < 600 → M' 35 (1 + y / 20) (y % 20) = W y) → (∀ it i, 0 ≤ M' 35 it i ∧ M' 35 it i ≤ 8) → c_35 B M' := fun M' a b => ⟨b, fun y y0 y1 q => by rw [a y y0 y1]; exact (hW y).2 q⟩
  refine t16 hS (W := W) (Bo := Bo) (ob := ob) (Ro := Ro) (e' := e') (p0 := p0) hB h180 he g1 g2 g3 g4 ⟨g5.1, g5.2.1, g5.2.2.1⟩ g6 k4 g7 k3 hn g5.2.2.2 hp g8 k6.1 k6.2 h18 (fun y _ _ => hW y) g9 (by rw [k2]; omega) k5 (fun r0 c c0 c3 => ?_) (fun M' R a1 a2 a3 a4 a5 a6 a7 a8 a9 a10 => H1 M' R a1 a2 a3 ⟨a4, a9⟩ ⟨a7, a8, a5, p35 M' a9 a10⟩ (by rw [a6, rg])) (fun M' a1 a2 a3 a4 a5 a6 a7 a8 _ => H0 M' a1 a2 ⟨⟨a4, a5, a3, p35 M' a6 a7⟩, a8⟩)
  have ed := (k7 (by omega)).1
  have eA : c_A B (fun x => M 5 (1 + x) 10) (fun x => M 37 (1 + x)) c = r_A B (Rq (n - 1)) c := by
    funext k i w
    unfold r_A c_A
    by_cases hi : 0 ≤ i ∧ i < 10
    · have l := ed.1 (10 * c + i) (by omega) (by omega)
      rw [if_pos hi, if_pos hi]
      simp only [l.1, l.2.2]
    · rw [if_neg hi, if_neg hi]
  rw [eA]
  exact ⟨r_W (Rq (n - 1)) c, ed.2.1 c c0 c3, ((k1 (n - 1) (by omega) (by omega)).2 c c0 c3).1⟩
theorem fr11_of {e : Int} {M M' : qM} (h : fr16r e M M') : fr11 e M M' := fun k m s _ _ q => h k m s q
theorem fr11_18 {e n : Int} {M M' : qM} (h : fr12 18 n M M') : fr11 e M M' := fun k m s q _ _ => h k m s (fun z => q z.1)
theorem fr11_t {e : Int} {M M1 M2 : qM} (h : fr11 e M M1) (h' : fr11 e M1 M2) : fr11 e M M2 := fun k m s a b c => by rw [h' k m s a b c]; exact h k m s a b c
theorem c_edm_18 {B : pT} {R : c_R} {p0 e n : Int} {M M' : qM} (h : c_edm B R p0 e M) (hf : fr12 18 n M M') : c_edm B R p0 e M' := by
  have O : ∀ (k : Nat) (m s : Int), k ≠ 18 → M' k m s = M k m s := fun k m s q => hf k m s (fun z => q z.1)
  refine ⟨fun x a b => ?_, fun c a b => c_ch_fr (h.2.1 c a b) (fun k s _ => O _ _ _ (by omega)) (fun k s _ => O _ _ _ (by omega)), by rw [O _ _ _ (by decide)]; exact h.2.2.1, fun y a b c => ?_⟩
  · have := h.1 x a b
    exact ⟨by rw [O _ _ _ (by decide)]; exact this.1, by rw [O _ _ _ (by decide)]; exact this.2.1, fun s => by rw [O _ _ _ (by decide)]; exact this.2.2 s⟩
  · rw [O _ _ _ (by decide), O _ _ _ (by decide), O _ _ _ (by decide)]; exact h.2.2.2 y a b c
theorem c_st_18 {B : pT} {e : Int} {M M' : qM} (hf : ∀ (k : Nat) (m s : Int), k ≠ 18 → ¬ (k = 2 ∧ m = 0 ∧ s = 10) → M' k m s = M k m s) (h : c_bd M ∧ c_z e M ∧ c_brk B M ∧ c_35 B M) : c_bd M' ∧ c_z e M' ∧ c_brk B M' ∧ c_35 B M' := by
  obtain ⟨h1, h2, h3, h4⟩ := h
  refine ⟨⟨fun s => by rw [hf _ _ _ (by decide) (by omega)]; exact h1.1 s, fun s => by rw [hf _ _ _ (by decide) (by omega)]; exact h1.2 s⟩, fun c a b => ?_, ⟨fun x a b c => ?_, fun x a b c => by rw [hf _ _ _ (by decide) (by omega), hf _ _ _ (by decide) (by omega)]; exact h3.2 x a b c⟩, fun it i => by rw [hf _ _ _ (by decide) (by omega)]; exact h4.1 it i, fun y a b c => by rw [hf _ _ _ (by decide) (by omega)]; exact h4.2 y a b c⟩
  · rw [hf _ _ _ (by decide) (by omega), hf _ _ _ (by decide) (by omega), hf _ _ _ (by decide) (by omega), hf _ _ _ (by decide) (by omega), hf _ _ _ (by decide) (by omega)]; exact h2 c a b
  · have := h3.1 x a b c
    have e36 : M' 36 (1 + x) = M 36 (1 + x) := by funext s; exact hf _ _ _ (by decide) (by omega)
    have e37 : M' 37 (1 + x) = M 37 (1 + x) := by funext s; exact hf _ _ _ (by decide) (by omega)
    rw [hf _ _ _ (by decide) (by omega), hf _ _ _ (by decide) (by omega), hf _ _ _ (by decide) (by omega), e36, e37]
    exact this
theorem c_brkX_18 {B : pT} {W : Int → Int} {M M' : qM} (hf : ∀ (k : Nat) (m s : Int), k ≠ 18 → ¬ (k = 2 ∧ m = 0 ∧ s = 10) → M' k m s = M k m s) (h : c_brkX B W M) : c_brkX B W M' := ⟨fun x a b c q => by
  have := h.1 x a b c q
  exact ⟨by rw [hf _ _ _ (by decide) (by omega)]; exact this.1, fun j j0 j1 => by rw [hf _ _ _ (by decide) (by omega)]; exact this.2 j j0 j1⟩, fun y a b => by rw [hf _ _ _ (by decide) (by omega)]; exact h.2 y a b⟩
theorem c_brkW_18 {B : pT} {W : Int → Int} {M M' : qM} (hf : ∀ (k : Nat) (m s : Int), k ≠ 18 → ¬ (k = 2 ∧ m = 0 ∧ s = 10) → M' k m s = M k m s) (h : c_brkW B W M) : c_brkW B W M' := fun x a b c q => by
  have := h x a b c q
  exact ⟨by rw [hf _ _ _ (by decide) (by omega)]; exact this.1, fun j j0 j1 => by rw [hf _ _ _ (by decide) (by omega)]; exact this.2 j j0 j1⟩
/-- what t23 writes is what the round asks for -/
theorem c_found {B : pT} {R : c_R} {p0 e y : Int} {M : qM} (h : c_edm B R p0 e M) (hy : 0 ≤ y ∧ y < 600) (hc : b_ch (c_K B) y = 1) : (if c_K B y = 2 then b_dg (M 26 e y) else b_tw (M 25 e y)) = c_W1 B R y := by
  have k := b_ch_1.mp hc
  have w := h.2.2.2 y hy.1 hy.2 (c_K_there (by omega))
  unfold c_W1 b_w1
  rcases k with k | k
  · rw [w.2.1, if_pos k, if_pos k, if_neg (by omega), if_pos k]
  · rw [w.2.2, if_neg (by omega), if_pos k, if_pos k]
/-- the round that took, in the class and in the picture -/
theorem c_first_of {B : pT} {Rq : Int → c_R} {r v : Int} {M : qM} (hls : b_ls (c_K B) M) (ht : c_tk B Rq (r + 1) M) (hr : 0 ≤ r) (h : b_first (fun t => ∀ i, 0 ≤ i → i < M 2 0 3 → M 18 t i = M 18 (r + 1) i) (r + 1) v) : c_first B Rq r v := by
  have e : ∀ t, 0 ≤ t → t ≤ r → ((∀ i, 0 ≤ i → i < M 2 0 3 → M 18 t i = M 18 (r + 1) i) ↔ c_eqW B (c_Wq B Rq t) (c_Wq B Rq (r + 1))) := fun t t0 t1 => by
    rw [hls.1]
    refine ⟨fun z y y0 y1 q => ?_, fun z i i0 i1 => ?_⟩
    · rw [← ht t y t0 (by omega) y0 y1 q, ← ht (r + 1) y (by omega) (by omega) y0 y1 q]
      have m0 : 0 ≤ b_n (c_K B) y := (p_sum_bd (g := b_ch (c_K B)) (b := 1) (fun k => b_ch_b) y0).1
      have m1 : b_n (c_K B) y + b_ch (c_K B) y ≤ b_n (c_K B) 600 := p_sum_lt (fun x _ _ => b_ch_b.1) y0 y1
      exact z _ m0 (by omega)
    · obtain ⟨y, y1, y2, rfl⟩ := b_n_sur 600 i i0 i1
      rw [ht t y t0 (by omega) y1.1 y1.2 y2, ht (r + 1) y (by omega) (by omega) y1.1 y1.2 y2]
      exact z y y1.1 y1.2 y2
  unfold c_first
  rcases h with ⟨z1, z2⟩ | ⟨z1, z2, z3⟩
  · exact Or.inl ⟨z1, fun t a b q => z2 t a b ((e t a (by omega)).mpr q)⟩
  · exact Or.inr ⟨z1, (e v z1.1 (by omega)).mp z2, fun t a b q => z3 t a b ((e t a (by omega)).mpr q)⟩
